/-! images -/
theorem va_up2 {α : Type} (f : Nat → α) (k : Nat) (x y : α) : va_up (va_up f k x) k y = va_up f k y := by
  funext j
  unfold va_up
  by_cases h : j = k
  · rw [if_pos h, if_pos h]
  · rw [if_neg h, if_neg h, if_neg h]
theorem va_upS {α : Type} (f : Nat → α) (k : Nat) : va_up f k (f k) = f := by
  funext j
  unfold va_up
  by_cases h : j = k
  · rw [if_pos h, h]
  · rw [if_neg h]
theorem sR_sR (u : KS) (k : Nat) (f g : Nat → Int32) : sR (sR u k f) k g = sR u k g := by
  show (u.1, va_up (va_up u.2.1 k f) k g, u.2.2) = (u.1, va_up u.2.1 k g, u.2.2)
  rw [va_up2]
theorem sR_self (u : KS) (k : Nat) : sR u k (gR u k) = u := by
  show (u.1, va_up u.2.1 k (u.2.1 k), u.2.2) = u
  rw [va_upS]
theorem sI_sI (u : KS) (k : Nat) (x y : Int32) : sI (sI u k x) k y = sI u k y := by
  show (va_up (va_up u.1 k x) k y, u.2) = (va_up u.1 k y, u.2)
  rw [va_up2]
theorem sI_self (u : KS) (k : Nat) : sI u k (gI u k) = u := by
  show (va_up u.1 k (u.1 k), u.2) = u
  rw [va_upS]
theorem sA_sA (u : KS) (k : Nat) (f g : Nat → Int64) : sA (sA u k f) k g = sA u k g := by
  show (u.1, u.2.1, u.2.2.1, va_up (va_up u.2.2.2.1 k f) k g, u.2.2.2.2) = (u.1, u.2.1, u.2.2.1, va_up u.2.2.2.1 k g, u.2.2.2.2)
  rw [va_up2]
theorem sA_self (u : KS) (k : Nat) : sA u k (gA u k) = u := by
  show (u.1, u.2.1, u.2.2.1, va_up u.2.2.2.1 k (u.2.2.2.1 k), u.2.2.2.2) = u
  rw [va_upS]
theorem sL_sL (u : KS) (k : Nat) (f g : Int64) : sL (sL u k f) k g = sL u k g := by
  show (u.1, u.2.1, va_up (va_up u.2.2.1 k f) k g, u.2.2.2) = (u.1, u.2.1, va_up u.2.2.1 k g, u.2.2.2)
  rw [va_up2]
theorem sR_sI (u : KS) (k j : Nat) (f : Nat → Int32) (x : Int32) : sR (sI u j x) k f = sI (sR u k f) j x := rfl
theorem sI_sR (u : KS) (k j : Nat) (f : Nat → Int32) (x : Int32) : sI (sR u k f) j x = sR (sI u j x) k f := rfl
/-- many cells written, one after another -/
theorem fd_up (o : Nat) (v : Nat → Int32) : ∀ (n : Nat) (F : Nat → Int32) (j : Nat), fd (fun k x => upd x (o + k) (v k)) n F j = if o ≤ j ∧ j < o + n then v (j - o) else F j := by
  intro n
  induction n with
  | zero => intro F j; rw [if_neg (by omega)]; rfl
  | succ n ih =>
    intro F j
    rw [fd_s, u_s, ih]
    by_cases h : j = o + n
    · rw [if_pos h, if_pos (by omega), h, Nat.add_sub_cancel_left]
    · rw [if_neg h]
      by_cases h2 : o ≤ j ∧ j < o + n
      · rw [if_pos h2, if_pos (by omega)]
      · rw [if_neg h2, if_neg (by omega)]
theorem fd_up0 (v : Nat → Int32) (n : Nat) (F : Nat → Int32) (j : Nat) : fd (fun k x => upd x k (v k)) n F j = if j < n then v j else F j := by
  have e := fd_up 0 v n F j
  have e2 : (fun k (x : Nat → Int32) => upd x (0 + k) (v k)) = fun k x => upd x k (v k) := by funext k x; rw [Nat.zero_add]
  rw [e2, Nat.zero_add, Nat.sub_zero] at e
  rw [e]
  by_cases h : j < n
  · rw [if_pos ⟨Nat.zero_le _, h⟩, if_pos h]
  · rw [if_neg (fun q => h q.2), if_neg h]
theorem e_copy {n : Nat} (hn : n < 2147483648) (f g : Nat → Int32) : ∃ r, mX5_copy n f n g = some r ∧ ∀ i, i < n → r i = f i := by
  refine ⟨fd (fun k x => upd x k (f k)) n g, ?_, fun i hi => by rw [fd_up0, if_pos hi]⟩
  unfold mX5_copy
  have e := lp_fd0 (S := mX5_copy_s2 n f n) (fun k (x : Nat → Int32) => (nI k, x)) (fun k x => upd x k (f k)) id n g
    (fun k x hk => by
      unfold mX5_copy_s2
      dsimp only
      rw [if_neg (show ¬ Int32.ofNat n ≤ nI k from nI_ge hk hn), if_neg (show ¬ Int32.ofNat n ≤ nI k from nI_ge hk hn), gd_t (i_k hk hn), gd_t (i_k hk hn), i_cl (by omega), i_s])
    (fun x => by
      unfold mX5_copy_s2
      dsimp only
      rw [if_pos (show Int32.ofNat n ≤ nI n from Int32.le_refl _)]
      rfl)
  exact (congrArg (fun o => Option.bind o fun e => some e) e).trans rfl
theorem e_become (k u : KS) : ∃ res, mX3_become (kJ k u) = some res ∧ (gI res 2 = gI u 2 ∧ gI res 3 = gI u 3 ∧ gI res 4 = gI u 4) ∧ (∀ i, i < 120 → gR res 1 i = gR u 1 i) ∧ (∀ i, i < 4 → gR res 2 i = gR u 2 i) ∧ (∀ i, i < 7 → gR res 3 i = gR u 3 i) ∧ (∀ i, i < 4 → gR res 4 i = gR u 4 i) ∧ (∀ i, i < 32 → gR res 5 i = gR u 5 i) ∧ (∀ i, i < 18 → gR res 6 i = gR u 6 i) := by
  obtain ⟨r1, e1, p1⟩ := e_copy (n := 120) (by decide) (gR (kJ k u) 11) (gR (kJ k u) 1)
  obtain ⟨r2, e2, p2⟩ := e_copy (n := 4) (by decide) (gR (kJ k u) 12) (gR (kJ k u) 2)
  obtain ⟨r3, e3, p3⟩ := e_copy (n := 7) (by decide) (gR (kJ k u) 13) (gR (kJ k u) 3)
  obtain ⟨r4, e4, p4⟩ := e_copy (n := 4) (by decide) (gR (kJ k u) 14) (gR (kJ k u) 4)
  obtain ⟨r5, e5, p5⟩ := e_copy (n := 32) (by decide) (gR (kJ k u) 15) (gR (kJ k u) 5)
  obtain ⟨r6, e6, p6⟩ := e_copy (n := 18) (by decide) (gR (kJ k u) 16) (gR (kJ k u) 6)
  have e : mX3_become (kJ k u) = some (sR (sR (sR (sR (sR (sR (sI (sI (sI (kJ k u) 2 (gI (kJ k u) 12)) 3 (gI (kJ k u) 13)) 4 (gI (kJ k u) 14)) 1 r1) 2 r2) 3 r3) 4 r4) 5 r5) 6 r6) := by
    unfold mX3_become
    rw [e1, bs, e2, bs, e3, bs, e4, bs, e5, bs, e6, bs]
  exact ⟨_, e, ⟨rfl, rfl, rfl⟩, p1, p2, p3, p4, p5, p6⟩
/-- what a kept state is, by what it holds -/
theorem RK_ag {k u : KS} {b b' : Nat → Int32} {L K P : Nat} (h : RK u b L K P) (hi : gI k 2 = gI u 2 ∧ gI k 3 = gI u 3 ∧ gI k 4 = gI u 4) (a1 : ∀ i, i < 120 → gR k 1 i = gR u 1 i) (a2 : ∀ i, i < 4 → gR k 2 i = gR u 2 i) (a3 : ∀ i, i < 7 → gR k 3 i = gR u 3 i) (a4 : ∀ i, i < 4 → gR k 4 i = gR u 4 i) (a5 : ∀ i, i < 32 → gR k 5 i = gR u 5 i) (a6 : ∀ i, i < 18 → gR k 6 i = gR u 6 i) (hb : ∀ i, i < 200 → b' i = b i) : RK k b' L K P := by
  obtain ⟨hT, hS, hp, hm, hl, hq⟩ := h
  have hL := hT.1
  have hK := hl.1
  have hP := hq.1
  have e0 := hb 0 (by decide)
  have e1 := hb 1 (by decide)
  have e2 := hb 2 (by decide)
  have e4 := hb 4 (by decide)
  have e5 := hb 5 (by decide)
  have e6 := hb 6 (by decide)
  have e7 := hb 7 (by decide)
  refine ⟨⟨hL, hi.1.trans hT.2.1, e0.trans hT.2.2.1, fun i h => ?_⟩, ⟨fun i h => ?_, ?_, ?_, ?_, ?_⟩, fun i h => ?_, fun i h => ?_, ⟨hK, hi.2.1.trans hl.2.1, e1.trans hl.2.2.1, fun i h => ?_, fun i h => ?_⟩, ⟨hP, hi.2.2.trans hq.2.1, e2.trans hq.2.2.1, fun i h => ?_, fun i h => ?_⟩⟩
  · rw [a1 i (by omega), hb _ (by omega)]; exact hT.2.2.2 i h
  · rw [a2 i h, hb _ (by omega)]; exact hS.1 i h
  · rw [e4]; exact hS.2.1
  · rw [e5]; exact hS.2.2.1
  · rw [e6]; exact hS.2.2.2.1
  · rw [e7]; exact hS.2.2.2.2
  · rw [a3 i h, hb _ (by omega)]; exact hp i h
  · rw [a4 i h, hb _ (by omega)]; exact hm i h
  · rw [a5 i (by omega), hb _ (by omega)]; exact hl.2.2.2.1 i h
  · rw [hb _ (by omega), hb _ (by omega), hb _ (by omega), hb _ (by omega)]; exact hl.2.2.2.2 i h
  · rw [a6 i (by omega), hb _ (by omega)]; exact hq.2.2.2.1 i h
  · rw [hb _ (by omega), hb _ (by omega), hb _ (by omega)]; exact hq.2.2.2.2 i h
theorem e_image6 (v : KS) {a : Nat} (ha : a < 2) : ∃ F : Nat → Int32, (∀ j, F j = if 200 * a ≤ j ∧ j < 200 * a + 200 then gR v 0 (j - 200 * a) else gR v 1 j) ∧ mX6_image v (nI a) = some (1, sR (sR v 1 F) 2 (upd (gR v 2) a 1)) := by
  refine ⟨fd (fun k x => upd x (200 * a + k) (gR v 0 k)) 200 (gR v 1), fun j => fd_up (200 * a) (gR v 0) 200 (gR v 1) j, ?_⟩
  have e := lp_fd0 (S := mX6_image_s17 (nI a)) (fun k (x : Nat → Int32) => (nI k, sR v 1 x)) (fun k x => upd x (200 * a + k) (gR v 0 k)) (fun x => sR v 1 x) 200 (gR v 1)
    (fun k x hk => by
      unfold mX6_image_s17
      dsimp only
      have e1 : (200 : Int32) * nI a + nI k = nI (200 * a + k) := by rw [show (200 : Int32) = nI 200 from rfl, i_mul, i_add]
      rw [if_neg (show ¬ (200 : Int32) ≤ nI k from nI_ge hk (by decide)), e1, gd_t (i_k hk (by decide)), gd_t (i_k (by omega) (by decide)), i_cl (by omega), i_cl (by omega), i_s, sR_sR]
      rfl)
    (fun x => by
      unfold mX6_image_s17
      dsimp only
      rw [if_pos (show (200 : Int32) ≤ nI 200 from Int32.le_refl _)])
  rw [sR_self] at e
  have ha2 : 0 ≤ (nI a).toInt ∧ (nI a).toInt ≤ 1 := by rw [z_nN (by omega)]; omega
  unfold mX6_image
  rw [e_inc (nI a) 0 1 (l := 0) (h := 1) rfl rfl, if_pos ha2, bs, if_neg (by decide)]
  have e' : lpF (mX6_image_s17 (nI a)) (0, v) = _ := e
  rw [e', bs, gd_t (i_k ha (by decide)), i_cl (by omega)]
  rfl
theorem e_from6 (v : KS) {a : Nat} (ha : a < 2) (hk : gR v 2 a = 1) : ∃ F : Nat → Int32, (∀ j, j < 200 → F j = gR v 1 (200 * a + j)) ∧ mX6_from v (nI a) = some (1, sR v 0 F) := by
  refine ⟨fd (fun k x => upd x k (gR v 1 (200 * a + k))) 200 (gR v 0), fun j hj => by rw [fd_up0, if_pos hj], ?_⟩
  have e := lp_fd0 (S := mX6_from_s31 (nI a)) (fun k (x : Nat → Int32) => (nI k, sR v 0 x)) (fun k x => upd x k (gR v 1 (200 * a + k))) (fun x => sR v 0 x) 200 (gR v 0)
    (fun k x hk => by
      unfold mX6_from_s31
      dsimp only
      have e1 : (200 : Int32) * nI a + nI k = nI (200 * a + k) := by rw [show (200 : Int32) = nI 200 from rfl, i_mul, i_add]
      rw [if_neg (show ¬ (200 : Int32) ≤ nI k from nI_ge hk (by decide)), e1, gd_t (i_k (by omega) (by decide)), gd_t (i_k hk (by decide)), i_cl (by omega), i_cl (by omega), i_s, sR_sR]
      rfl)
    (fun x => by
      unfold mX6_from_s31
      dsimp only
      rw [if_pos (show (200 : Int32) ≤ nI 200 from Int32.le_refl _)])
  rw [sR_self] at e
  have ha2 : 0 ≤ (nI a).toInt ∧ (nI a).toInt ≤ 1 := by rw [z_nN (by omega)]; omega
  unfold mX6_from
  rw [e_inc (nI a) 0 1 (l := 0) (h := 1) rfl rfl, if_pos ha2, bs, if_neg (by decide), gd_t (i_k ha (by decide)), i_cl (by omega), hk, if_neg (by decide)]
  have e' : lpF (mX6_from_s31 (nI a)) (0, v) = _ := e
  rw [e', bs]
theorem e_from6n (v : KS) {a : Nat} (ha : a < 2) (hk : gR v 2 a = 0) : mX6_from v (nI a) = some (-3, b6 v 1) := by
  have ha2 : 0 ≤ (nI a).toInt ∧ (nI a).toInt ≤ 1 := by rw [z_nN (by omega)]; omega
  unfold mX6_from
  rw [e_inc (nI a) 0 1 (l := 0) (h := 1) rfl rfl, if_pos ha2, bs, if_neg (by decide), gd_t (i_k ha (by decide)), i_cl (by omega), hk, if_pos rfl, e_no6]
  rfl
theorem lm_imageb : LM_imageb Rel := by
  intro u k0 k1 v a ha hR
  refine lm_b hR (j := 0) (by decide) (-2) (e_bad5 u) ?_
  unfold mX6_image
  rw [e_inc a 0 1 (l := 0) (h := 1) rfl rfl, if_neg (by rw [z_lt, z_lt] at ha; have e0 : (0 : Int32).toInt = 0 := rfl; have e2 : (2 : Int32).toInt = 2 := rfl; rw [e0, e2] at ha; omega), bs, if_pos rfl, e_bad6]
  rfl
theorem lm_fromb : LM_fromb Rel := by
  intro u k0 k1 v a ha hR
  refine lm_b hR (j := 0) (by decide) (-2) (e_bad5 u) ?_
  unfold mX6_from
  rw [e_inc a 0 1 (l := 0) (h := 1) rfl rfl, if_neg (by rw [z_lt, z_lt] at ha; have e0 : (0 : Int32).toInt = 0 := rfl; have e2 : (2 : Int32).toInt = 2 := rfl; rw [e0, e2] at ha; omega), bs, if_pos rfl, e_bad6]
  rfl
theorem Img_cg {o : Option KS} {v v' : KS} {i : Nat} (h : Img o v i) (h1 : gR v' 2 i = gR v 2 i) (h2 : ∀ j, j < 200 → gR v' 1 (200 * i + j) = gR v 1 (200 * i + j)) : Img o v' i := by
  cases o with
  | none => exact h1.trans h
  | some k =>
    obtain ⟨h3, L, K, P, h4⟩ := h
    exact ⟨h1.trans h3, L, K, P, RK_ag h4 ⟨rfl, rfl, rfl⟩ (fun _ _ => rfl) (fun _ _ => rfl) (fun _ _ => rfl) (fun _ _ => rfl) (fun _ _ => rfl) (fun _ _ => rfl) h2⟩
theorem lm_image0 : LM_image0 Rel := by
  intro u k0 k1 v ⟨L, K, P, hK, h0, h1, hf, hF, hC⟩
  obtain ⟨res, e5, q1, q2, q3, q4, q5, q6, q7⟩ := e_become (k0.getD kkept) u
  obtain ⟨F, hF2, e6⟩ := e_image6 v (a := 0) (by decide)
  refine ⟨res, _, e5, e6, fun o => ⟨L, K, P, hK, ⟨u_is 0 1 (gR v 2), L, K, P, RK_ag hK q1 q2 q3 q4 q5 q6 q7 (fun i hi => ?_)⟩, Img_cg h1 (u_no 0 1 (gR v 2) (j := 1) (by decide)) (fun j hj => ?_), hf, hF, hC⟩⟩
  · show F (200 * 0 + i) = _
    rw [hF2, if_pos (by omega), show 200 * 0 + i - 200 * 0 = i by omega]
  · show F (200 * 1 + j) = _
    rw [hF2, if_neg (by omega)]
theorem lm_image1 : LM_image1 Rel := by
  intro u k0 k1 v ⟨L, K, P, hK, h0, h1, hf, hF, hC⟩
  obtain ⟨res, e5, q1, q2, q3, q4, q5, q6, q7⟩ := e_become (k1.getD kkept) u
  obtain ⟨F, hF2, e6⟩ := e_image6 v (a := 1) (by decide)
  refine ⟨res, _, e5, e6, fun o => ⟨L, K, P, hK, Img_cg h0 (u_no 1 1 (gR v 2) (j := 0) (by decide)) (fun j hj => ?_), ⟨u_is 1 1 (gR v 2), L, K, P, RK_ag hK q1 q2 q3 q4 q5 q6 q7 (fun i hi => ?_)⟩, hf, hF, hC⟩⟩
  · show F (200 * 0 + j) = _
    rw [hF2, if_neg (by omega)]
  · show F (200 * 1 + i) = _
    rw [hF2, if_pos (by omega), show 200 * 1 + i - 200 * 1 = i by omega]
theorem lm_fromn0 : LM_fromn0 Rel := by
  intro u k1 v hR
  have hR' := hR
  obtain ⟨L, K, P, hK, h0, h1, hf, hF, hC⟩ := hR
  exact lm_b hR' (j := 1) (by decide) (-3) (e_no5 u) (e_from6n v (a := 0) (by decide) h0)
theorem lm_fromn1 : LM_fromn1 Rel := by
  intro u k0 v hR
  have hR' := hR
  obtain ⟨L, K, P, hK, h0, h1, hf, hF, hC⟩ := hR
  exact lm_b hR' (j := 1) (by decide) (-3) (e_no5 u) (e_from6n v (a := 1) (by decide) h1)
theorem e_fromS {u k : KS} : ∃ r, mX3_become (kJ u k) = some r ∧ mX5_fromS u k = some (1, sI (sI (kNow u r) 0 1) 1 1) ∧ (gI r 2 = gI k 2 ∧ gI r 3 = gI k 3 ∧ gI r 4 = gI k 4) ∧ (∀ i, i < 120 → gR r 1 i = gR k 1 i) ∧ (∀ i, i < 4 → gR r 2 i = gR k 2 i) ∧ (∀ i, i < 7 → gR r 3 i = gR k 3 i) ∧ (∀ i, i < 4 → gR r 4 i = gR k 4 i) ∧ (∀ i, i < 32 → gR r 5 i = gR k 5 i) ∧ (∀ i, i < 18 → gR r 6 i = gR k 6 i) := by
  obtain ⟨r, e5, q1, q2, q3, q4, q5, q6, q7⟩ := e_become u k
  refine ⟨r, e5, ?_, q1, q2, q3, q4, q5, q6, q7⟩
  unfold mX5_fromS
  rw [e5, bs]
  rfl
theorem lm_froms0 : LM_froms0 Rel := by
  intro u k k1 v ⟨L, K, P, hK, h0, h1, hf, hF, hC⟩
  obtain ⟨h3, L', K', P', h4⟩ := h0
  obtain ⟨r, e5, e5', q1, q2, q3, q4, q5, q6, q7⟩ := e_fromS (u := u) (k := k)
  obtain ⟨F, hF2, e6⟩ := e_from6 v (a := 0) (by decide) h3
  exact ⟨1, _, _, e5', e6, ⟨L', K', P', RK_ag h4 q1 q2 q3 q4 q5 q6 q7 (fun i hi => hF2 i hi), ⟨h3, L', K', P', h4⟩, h1, hf, hF, Or.inl rfl, Or.inl rfl⟩, rfl⟩
theorem lm_froms1 : LM_froms1 Rel := by
  intro u k0 k v ⟨L, K, P, hK, h0, h1, hf, hF, hC⟩
  obtain ⟨h3, L', K', P', h4⟩ := h1
  obtain ⟨r, e5, e5', q1, q2, q3, q4, q5, q6, q7⟩ := e_fromS (u := u) (k := k)
  obtain ⟨F, hF2, e6⟩ := e_from6 v (a := 1) (by decide) h3
  exact ⟨1, _, _, e5', e6, ⟨L', K', P', RK_ag h4 q1 q2 q3 q4 q5 q6 q7 (fun i hi => hF2 i hi), h0, ⟨h3, L', K', P', h4⟩, hf, hF, Or.inl rfl, Or.inl rfl⟩, rfl⟩
