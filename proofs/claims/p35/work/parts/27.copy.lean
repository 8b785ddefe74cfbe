/-! images -/
theorem va_up2 {α : Type} (f : Nat → α) (k : Nat) (x y : α) : va_up (va_up f k x) k y = va_up f k y := by
  funext j
  unfold va_up
  by_cases h : j = k
  · rw [if_pos h, if_pos h]
  · rw [if_neg h, if_neg h, if_neg h]
theorem va_upS {α : Type} (f : Nat → α) (k : Nat) : va_up f k (f k) = f := by
  funext j
  unfold va_up
  by_cases h : j = k
  · rw [if_pos h, h]
  · rw [if_neg h]
theorem sR_sR (u : KS) (k : Nat) (f g : Nat → Int32) : sR (sR u k f) k g = sR u k g := by
  show (u.1, va_up (va_up u.2.1 k f) k g, u.2.2) = (u.1, va_up u.2.1 k g, u.2.2)
  rw [va_up2]
theorem sR_self (u : KS) (k : Nat) : sR u k (gR u k) = u := by
  show (u.1, va_up u.2.1 k (u.2.1 k), u.2.2) = u
  rw [va_upS]
theorem sI_sI (u : KS) (k : Nat) (x y : Int32) : sI (sI u k x) k y = sI u k y := by
  show (va_up (va_up u.1 k x) k y, u.2) = (va_up u.1 k y, u.2)
  rw [va_up2]
theorem sI_self (u : KS) (k : Nat) : sI u k (gI u k) = u := by
  show (va_up u.1 k (u.1 k), u.2) = u
  rw [va_upS]
theorem sA_sA (u : KS) (k : Nat) (f g : Nat → Int64) : sA (sA u k f) k g = sA u k g := by
  show (u.1, u.2.1, u.2.2.1, va_up (va_up u.2.2.2.1 k f) k g, u.2.2.2.2) = (u.1, u.2.1, u.2.2.1, va_up u.2.2.2.1 k g, u.2.2.2.2)
  rw [va_up2]
theorem sA_self (u : KS) (k : Nat) : sA u k (gA u k) = u := by
  show (u.1, u.2.1, u.2.2.1, va_up u.2.2.2.1 k (u.2.2.2.1 k), u.2.2.2.2) = u
  rw [va_upS]
theorem sL_sL (u : KS) (k : Nat) (f g : Int64) : sL (sL u k f) k g = sL u k g := by
  show (u.1, u.2.1, va_up (va_up u.2.2.1 k f) k g, u.2.2.2) = (u.1, u.2.1, va_up u.2.2.1 k g, u.2.2.2)
  rw [va_up2]
theorem sR_sI (u : KS) (k j : Nat) (f : Nat → Int32) (x : Int32) : sR (sI u j x) k f = sI (sR u k f) j x := rfl
theorem sI_sR (u : KS) (k j : Nat) (f : Nat → Int32) (x : Int32) : sI (sR u k f) j x = sR (sI u j x) k f := rfl
/-- many cells written, one after another -/
theorem fd_up (o : Nat) (v : Nat → Int32) : ∀ (n : Nat) (F : Nat → Int32) (j : Nat), fd (fun k x => upd x (o + k) (v k)) n F j = if o ≤ j ∧ j < o + n then v (j - o) else F j := by
  intro n
  induction n with
  | zero => intro F j; rw [if_neg (by omega)]; rfl
  | succ n ih =>
    intro F j
    rw [fd_s, u_s, ih]
    by_cases h : j = o + n
    · rw [if_pos h, if_pos (by omega), h, Nat.add_sub_cancel_left]
    · rw [if_neg h]
      by_cases h2 : o ≤ j ∧ j < o + n
      · rw [if_pos h2, if_pos (by omega)]
      · rw [if_neg h2, if_neg (by omega)]
theorem fd_up0 (v : Nat → Int32) (n : Nat) (F : Nat → Int32) (j : Nat) : fd (fun k x => upd x k (v k)) n F j = if j < n then v j else F j := by
  have e := fd_up 0 v n F j
  have e2 : (fun k (x : Nat → Int32) => upd x (0 + k) (v k)) = fun k x => upd x k (v k) := by funext k x; rw [Nat.zero_add]
  rw [e2, Nat.zero_add, Nat.sub_zero] at e
  rw [e]
  by_cases h : j < n
  · rw [if_pos ⟨Nat.zero_le _, h⟩, if_pos h]
  · rw [if_neg (fun q => h q.2), if_neg h]
theorem e_copy {n : Nat} (hn : n < 2147483648) (f g : Nat → Int32) : ∃ r, mX5_copy n f n g = some r ∧ ∀ i, i < n → r i = f i := by
  refine ⟨fd (fun k x => upd x k (f k)) n g, ?_, fun i hi => by rw [fd_up0, if_pos hi]⟩
  unfold mX5_copy
  have e := lp_fd0 (S := mX5_copy_s2 n f n) (fun k (x : Nat → Int32) => (nI k, x)) (fun k x => upd x k (f k)) id n g
    (fun k x hk => by
      unfold mX5_copy_s2
      dsimp only
      rw [if_neg (show ¬ Int32.ofNat n ≤ nI k from nI_ge hk hn), if_neg (show ¬ Int32.ofNat n ≤ nI k from nI_ge hk hn), gd_t (i_k hk hn), gd_t (i_k hk hn), i_cl (by omega), i_s])
    (fun x => by
      unfold mX5_copy_s2
      dsimp only
      rw [if_pos (show Int32.ofNat n ≤ nI n from Int32.le_refl _)]
      rfl)
  exact (congrArg (fun o => Option.bind o fun e => some e) e).trans rfl
theorem e_become (k u : KS) : ∃ res, mX3_become (kJ k u) = some res ∧ (gI res 2 = gI u 2 ∧ gI res 3 = gI u 3 ∧ gI res 4 = gI u 4) ∧ (∀ i, i < 120 → gR res 1 i = gR u 1 i) ∧ (∀ i, i < 4 → gR res 2 i = gR u 2 i) ∧ (∀ i, i < 7 → gR res 3 i = gR u 3 i) ∧ (∀ i, i < 4 → gR res 4 i = gR u 4 i) ∧ (∀ i, i < 32 → gR res 5 i = gR u 5 i) ∧ (∀ i, i < 18 → gR res 6 i = gR u 6 i) := by
  obtain ⟨r1, e1, p1⟩ := e_copy (n := 120) (by decide) (gR (kJ k u) 11) (gR (kJ k u) 1)
  obtain ⟨r2, e2, p2⟩ := e_copy (n := 4) (by decide) (gR (kJ k u) 12) (gR (kJ k u) 2)
  obtain ⟨r3, e3, p3⟩ := e_copy (n := 7) (by decide) (gR (kJ k u) 13) (gR (kJ k u) 3)
  obtain ⟨r4, e4, p4⟩ := e_copy (n := 4) (by decide) (gR (kJ k u) 14) (gR (kJ k u) 4)
  obtain ⟨r5, e5, p5⟩ := e_copy (n := 32) (by decide) (gR (kJ k u) 15) (gR (kJ k u) 5)
  obtain ⟨r6, e6, p6⟩ := e_copy (n := 18) (by decide) (gR (kJ k u) 16) (gR (kJ k u) 6)
  have e : mX3_become (kJ k u) = some (sR (sR (sR (sR (sR (sR (sI (sI (sI (kJ k u) 2 (gI (kJ k u) 12)) 3 (gI (kJ k u) 13)) 4 (gI (kJ k u) 14)) 1 r1) 2 r2) 3 r3) 4 r4) 5 r5) 6 r6) := by
    unfold mX3_become
    rw [e1, bs, e2, bs, e3, bs, e4, bs, e5, bs, e6, bs]
  exact ⟨_, e, ⟨rfl, rfl, rfl⟩, p1, p2, p3, p4, p5, p6⟩
/-- what a kept state is, by what it holds -/
theorem RK_ag {k u : KS} {b b' : Nat → Int32} {L K P : Nat} (h : RK u b L K P) (hi : gI k 2 = gI u 2 ∧ gI k 3 = gI u 3 ∧ gI k 4 = gI u 4) (a1 : ∀ i, i < 120 → gR k 1 i = gR u 1 i) (a2 : ∀ i, i < 4 → gR k 2 i = gR u 2 i) (a3 : ∀ i, i < 7 → gR k 3 i = gR u 3 i) (a4 : ∀ i, i < 4 → gR k 4 i = gR u 4 i) (a5 : ∀ i, i < 32 → gR k 5 i = gR u 5 i) (a6 : ∀ i, i < 18 → gR k 6 i = gR u 6 i) (hb : ∀ i, i < 200 → b' i = b i) : RK k b' L K P := by
  obtain ⟨hT, hS, hp, hm, hl, hq⟩ := h
  have hL := hT.1
  have hK := hl.1
  have hP := hq.1
  have e0 := hb 0 (by decide)
  have e1 := hb 1 (by decide)
  have e2 := hb 2 (by decide)
  have e4 := hb 4 (by decide)
  have e5 := hb 5 (by decide)
  have e6 := hb 6 (by decide)
  have e7 := hb 7 (by decide)
  refine ⟨⟨hL, hi.1.trans hT.2.1, e0.trans hT.2.2.1, fun i h => ?_⟩, ⟨fun i h => ?_, ?_, ?_, ?_, ?_⟩, fun i h => ?_, fun i h => ?_, ⟨hK, hi.2.1.trans hl.2.1, e1.trans hl.2.2.1, fun i h => ?_, fun i h => ?_⟩, ⟨hP, hi.2.2.trans hq.2.1, e2.trans hq.2.2.1, fun i h => ?_, fun i h => ?_⟩⟩
  · rw [a1 i (by omega), hb _ (by omega)]; exact hT.2.2.2 i h
  · rw [a2 i h, hb _ (by omega)]; exact hS.1 i h
  · rw [e4]; exact hS.2.1
  · rw [e5]; exact hS.2.2.1
  · rw [e6]; exact hS.2.2.2.1
  · rw [e7]; exact hS.2.2.2.2
  · rw [a3 i h, hb _ (by omega)]; exact hp i h
  · rw [a4 i h, hb _ (by omega)]; exact hm i h
  · rw [a5 i (by omega), hb _ (by omega)]; exact hl.2.2.2.1 i h
  · rw [hb _ (by omega), hb _ (by omega), hb _ (by omega), hb _ (by omega)]; exact hl.2.2.2.2 i h
  · rw [a6 i (by omega), hb _ (by omega)]; exact hq.2.2.2.1 i h
  · rw [hb _ (by omega), hb _ (by omega), hb _ (by omega)]; exact hq.2.2.2.2 i h
theorem Img_cg {o : Option KS} {v v' : KS} {i : Nat} (h : Img o v i) (h1 : gR v' 2 i = gR v 2 i) (h2 : ∀ j, j < 200 → gR v' 1 (200 * i + j) = gR v 1 (200 * i + j)) : Img o v' i := by
  cases o with
  | none => exact h1.trans h
  | some k =>
    obtain ⟨h3, L, K, P, h4⟩ := h
    exact ⟨h1.trans h3, L, K, P, RK_ag h4 ⟨rfl, rfl, rfl⟩ (fun _ _ => rfl) (fun _ _ => rfl) (fun _ _ => rfl) (fun _ _ => rfl) (fun _ _ => rfl) (fun _ _ => rfl) h2⟩
theorem e_fromS {u k : KS} : ∃ r, mX3_become (kJ u k) = some r ∧ mX5_fromS u k = some (1, sI (sI (kNow u r) 0 1) 1 1) ∧ (gI r 2 = gI k 2 ∧ gI r 3 = gI k 3 ∧ gI r 4 = gI k 4) ∧ (∀ i, i < 120 → gR r 1 i = gR k 1 i) ∧ (∀ i, i < 4 → gR r 2 i = gR k 2 i) ∧ (∀ i, i < 7 → gR r 3 i = gR k 3 i) ∧ (∀ i, i < 4 → gR r 4 i = gR k 4 i) ∧ (∀ i, i < 32 → gR r 5 i = gR k 5 i) ∧ (∀ i, i < 18 → gR r 6 i = gR k 6 i) := by
  obtain ⟨r, e5, q1, q2, q3, q4, q5, q6, q7⟩ := e_become u k
  refine ⟨r, e5, ?_, q1, q2, q3, q4, q5, q6, q7⟩
  unfold mX5_fromS
  rw [e5, bs]
  rfl
