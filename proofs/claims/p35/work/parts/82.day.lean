/-! the day by cells: what it types, and its row -/
theorem e_digits {u : KS} {b : Nat → Int32} {L K : Nat} {O : Nat → Option Nat} (h : RC u b L K O) {v : Nat} (hv : v ≤ 99) (hL : L + (nmB v).length ≤ 120) : ∃ u' b', mL_digits u (nI v) = some u' ∧ RC u' b' (L + (nmB v).length) K O ∧ (∀ i, i < L → tx b' i = tx b i) ∧ (∀ i, i < (nmB v).length → (tx b' (L + i)).toInt = (nmB v).getD i 0) ∧ (∀ j, j ≠ 0 → j < 80 → b' j = b j) := by
  have one : ∀ c : Int64, ty_b c (tcn 1 0) = (c >>> ((8 * (0 : Int32)).toInt64 &&& 63)).toInt32 &&& 255 := fun c => rfl
  have dig : ∀ d, d < 10 → (ty_b (48 + (nI d).toInt64) (tcn 1 0)).toInt = 48 + (d : Int) := by decide +kernel
  have spc : (ty_b 32 (tcn 1 0)).toInt = 32 := by decide +kernel
  have hln := nmB_len v
  obtain ⟨u1, b1, p1, p2, p3, p4, p5⟩ := s_type h 32 (n := 1) (by decide) (by decide) (by omega)
  have p1' : mX5_type u 32 1 = some (nI (L + 1), u1) := p1
  have m1 : nI v - nI v / 10 * 10 = nI (v % 10) := i_mod (n := 10) (by omega) (by decide)
  have m2 : nI v / 10 = nI (v / 10) := i_div (n := 10) (by omega) (by decide)
  unfold mL_digits
  rw [p1', bs]
  by_cases c : 9 < v
  · rw [if_pos c] at hln
    obtain ⟨u2, b2, q1, q2, q3, q4, q5⟩ := s_type p2 (48 + (nI (v / 10)).toInt64) (n := 1) (by decide) (by decide) (by omega)
    have q1' : mX5_type u1 (48 + (nI (v / 10)).toInt64) 1 = some (nI (L + 1 + 1), u2) := q1
    obtain ⟨u3, b3, r1, r2, r3, r4, r5⟩ := s_type q2 (48 + (nI (v % 10)).toInt64) (n := 1) (by decide) (by decide) (by omega)
    have r1' : mX5_type u2 (48 + (nI (v % 10)).toInt64) 1 = some (nI (L + 1 + 1 + 1), u3) := r1
    refine ⟨u3, b3, ?_, by rw [hln]; exact r2, fun i hi => (r3 i (by omega)).trans ((q3 i (by omega)).trans (p3 i hi)), fun i hi => ?_, fun j h1 h2 => (r5 j h1 h2).trans ((q5 j h1 h2).trans (p5 j h1 h2))⟩
    · rw [if_neg (show ¬ nI v ≤ 9 from nI_ge (b := v) (a := 9) c (by omega)), m2, q1', bs]
      unfold mL_digits_j30
      rw [m1, r1', bs]
    · unfold nmB
      rw [if_pos c]
      rw [hln] at hi
      rcases (show i = 0 ∨ i = 1 ∨ i = 2 by omega) with z | z | z <;> subst z
      · rw [r3 _ (by omega), q3 _ (by omega), p4 0 (by decide), spc]; rfl
      · rw [r3 _ (by omega), q4 0 (by decide), dig _ (by omega)]; rfl
      · rw [r4 0 (by decide), dig _ (by omega)]; rfl
  · rw [if_neg c] at hln
    have hv9 : v % 10 = v := by omega
    obtain ⟨u3, b3, r1, r2, r3, r4, r5⟩ := s_type p2 (48 + (nI (v % 10)).toInt64) (n := 1) (by decide) (by decide) (by omega)
    have r1' : mX5_type u1 (48 + (nI (v % 10)).toInt64) 1 = some (nI (L + 1 + 1), u3) := r1
    refine ⟨u3, b3, ?_, by rw [hln]; exact r2, fun i hi => (r3 i (by omega)).trans (p3 i hi), fun i hi => ?_, fun j h1 h2 => (r5 j h1 h2).trans (p5 j h1 h2)⟩
    · rw [if_pos (show nI v ≤ 9 from nI_le (a := v) (b := 9) (by omega) (by decide))]
      unfold mL_digits_j30
      rw [m1, r1', bs]
    · unfold nmB
      rw [if_neg c]
      rw [hln] at hi
      rcases (show i = 0 ∨ i = 1 by omega) with z | z <;> subst z
      · rw [r3 _ (by omega), p4 0 (by decide), spc]; rfl
      · rw [r4 0 (by decide), dig _ (by omega), hv9]; rfl
/-- an item of the day by its cell: the word, its strength, what the row holds; its minutes -/
def iw (x : Nat) : Nat := if x % 4 = 0 then 0 else if x % 4 = 1 then 1 else if x % 4 = 2 then 3 else 2
def il (x : Nat) : Nat := if x % 4 = 3 then 1 + x / 256 % 9 else 0
def ic (x : Nat) : Nat := if x % 4 = 3 then 10 + (1 + x / 256 % 9) else x % 4
def im (x len : Nat) : Nat := min (1 + x / 4 % 14) (60 - len)
def dd (sa : Nat → Nat) : Nat → List (Nat × Nat)
  | 0 => []
  | i + 1 => dd sa i ++ List.replicate (im (cl sa (1 + i)) (dd sa i).length) (iw (cl sa (1 + i)), il (cl sa (1 + i)))
theorem dd_le (sa : Nat → Nat) : ∀ i, (dd sa i).length ≤ 60 := by
  intro i
  induction i with
  | zero => exact Nat.zero_le _
  | succ i ih =>
    show (dd sa i ++ _).length ≤ 60
    rw [len_app]
    unfold im
    omega
/-- the row's word for a minute -/
def cd (D : List (Nat × Nat)) (m : Nat) : Nat := if dH D m = 2 then 10 + dL D m else if dH D m = 3 then 2 else dH D m
def RW (F : Nat → Int32) (D : List (Nat × Nat)) : Prop := F 63 = nI D.length ∧ ∀ m, m < D.length → F m = nI (cd D m)
theorem cd_app {D : List (Nat × Nat)} {n x m : Nat} (hm : m < (D ++ List.replicate n (iw x, il x)).length) : cd (D ++ List.replicate n (iw x, il x)) m = if m < D.length then cd D m else ic x := by
  rw [len_app] at hm
  unfold cd
  rw [dH_app, dL_app]
  by_cases c : m < D.length
  · simp only [if_pos c]
  · simp only [if_neg c, if_pos hm]
    unfold iw il ic
    rcases (show x % 4 = 0 ∨ x % 4 = 1 ∨ x % 4 = 2 ∨ x % 4 = 3 by omega) with q | q | q | q <;> rw [q] <;> simp
/-- the minutes of one item go into the row -/
theorem e_rowL {sa : Nat → Nat} {c2 c4 c5 : Int32} {x n len : Nat} (hx : x < 2147483648) (hn : len + n ≤ 60) (u : KS) (F0 : Nat → Int32) (h0 : gR u 20 = F0) (h63 : F0 63 = nI len) : ∃ F, lpF (mL_day_s92 sa c2 c4 c5 (nI x) (nI n) (nI (1 + x / 256 % 9))) (0, u) = some (sR u 20 F) ∧ F 63 = nI (len + n) ∧ (∀ m, m < len → F m = F0 m) ∧ ∀ m, len ≤ m → m < len + n → F m = nI (ic x) := by
  have m4 : nI x - nI x / 4 * 4 = nI (x % 4) := i_mod (n := 4) hx (by decide)
  have key : ∀ k j F, j + k = n → F 63 = nI (len + j) → (∀ m, m < len → F m = F0 m) → (∀ m, len ≤ m → m < len + j → F m = nI (ic x)) → ∃ F', lpF (mL_day_s92 sa c2 c4 c5 (nI x) (nI n) (nI (1 + x / 256 % 9))) (nI j, sR u 20 F) = some (sR u 20 F') ∧ F' 63 = nI (len + n) ∧ (∀ m, m < len → F' m = F0 m) ∧ ∀ m, len ≤ m → m < len + n → F' m = nI (ic x) := by
    intro k
    induction k with
    | zero =>
      intro j F hj h1 h2 h3
      have hj : j = n := hj
      subst hj
      refine ⟨F, lp_stop ?_, h1, h2, h3⟩
      unfold mL_day_s92
      dsimp only
      rw [if_pos (Int32.le_refl _)]
    | succ k ih =>
      intro j F hj h1 h2 h3
      have jn : ∀ v : Int32, v = nI (ic x) → mL_day_s92_j124 sa (sR u 20 F) c2 c4 c5 (nI x) (nI n) (nI (1 + x / 256 % 9)) (nI j) v (gR (sR u 20 F) 20 ((63 : Int32).toNatClampNeg)) = some (.inr (nI (j + 1), sR u 20 (upd (upd F (len + j) (nI (ic x))) 63 (nI (len + (j + 1)))))) := by
        intro v hv
        have e63 : (gR (sR u 20 F) 20 ((63 : Int32).toNatClampNeg)) = nI (len + j) := h1
        unfold mL_day_s92_j124
        rw [e63, gd_t (i_k (by omega) (by decide)), i_cl (by omega), i_s, hv, sR_sR]
        have e2 : upd (gR (sR u 20 F) 20) (len + j) (nI (ic x)) ((63 : Int32).toNatClampNeg) = nI (len + j) := by
          show upd F (len + j) (nI (ic x)) 63 = _
          rw [u_no _ _ _ (by omega)]
          exact h1
        rw [e2, i_s]
        rfl
      have st : mL_day_s92 sa c2 c4 c5 (nI x) (nI n) (nI (1 + x / 256 % 9)) (nI j, sR u 20 F) = some (.inr (nI (j + 1), sR u 20 (upd (upd F (len + j) (nI (ic x))) 63 (nI (len + (j + 1)))))) := by
        unfold mL_day_s92
        dsimp only
        rw [if_neg (show ¬ nI n ≤ nI j from nI_ge (by omega) (by omega)), m4]
        by_cases c : x % 4 = 3
        · rw [if_pos (show nI (x % 4) = 3 by rw [c]; rfl)]
          refine jn _ ?_
          unfold ic
          rw [if_pos c, show (10 : Int32) = nI 10 from rfl, i_add]
        · rw [if_neg (show ¬ nI (x % 4) = 3 from fun z => c ((nI_eq (a := x % 4) (b := 3) (by omega) (by decide)).mp z))]
          refine jn _ ?_
          unfold ic
          rw [if_neg c]
      rw [lp_go st]
      refine ih (j + 1) _ (by omega) (u_is _ _ _) (fun m hm => ?_) (fun m g1 g2 => ?_)
      · rw [u_no _ _ _ (by omega), u_no _ _ _ (by omega)]
        exact h2 m hm
      · rw [u_no _ _ _ (by omega)]
        by_cases c : m = len + j
        · rw [c, u_is]
        · rw [u_no _ _ _ c]
          exact h3 m g1 (by omega)
  obtain ⟨F, f1, f2⟩ := key n 0 F0 (by omega) h63 (fun m hm => rfl) (fun m g1 g2 => absurd g1 (by omega))
  rw [← h0, sR_self] at f1
  exact ⟨F, f1, f2⟩
/-- the bytes of a word as it is typed -/
theorem ty_w : (∀ i, i < 5 → (ty_b 495873781348 (tcn 5 i)).toInt = (wrdL.getD 0 []).getD i 0) ∧ (∀ i, i < 5 → (ty_b 139207142501 (tcn 5 i)).toInt = (32 :: wrdL.getD 1 []).getD i 0) ∧ (∀ i, i < 5 → (ty_b 427070419828 (tcn 5 i)).toInt = (wrdL.getD 3 []).getD i 0) ∧ (∀ i, i < 4 → (ty_b 1886743660 (tcn 4 i)).toInt = (wrdL.getD 2 []).getD i 0) ∧ (ty_b 59 (tcn 1 0)).toInt = 59 := by decide +kernel
theorem il_9 (x : Nat) : il x ≤ 9 := by unfold il; split <;> omega
/-- one item typed behind what was read -/
theorem e_typed {u : KS} {b : Nat → Int32} {L K : Nat} {O : Nat → Option Nat} {D : List (Nat × Nat)} (h : RC u b L K O) (hP : Pre (tx b) L D) {x n : Nat} (hn1 : 1 ≤ n) (hn : D.length + n ≤ 60) (hL : L + 10 ≤ 120) {sa : Nat → Nat} {c4 c5 : Int32} (hx : x < 2147483648) (G : KS → Option (KS ⊕ (Int32 × KS))) (hG : G = fun e92 => if (nI x - nI x / 4 * 4) = 0 then ((mX5_type e92 495873781348 5).bind fun r155 => mL_day_s18_j217 sa (sR r155.2 20 (gR e92 20)) 1 c4 c5 (nI n)) else (if (nI x - nI x / 4 * 4) = 1 then ((mX5_type e92 139207142501 5).bind fun r175 => mL_day_s18_j217 sa (sR r175.2 20 (gR e92 20)) 1 c4 c5 (nI n)) else (if (nI x - nI x / 4 * 4) = 2 then ((mX5_type e92 427070419828 5).bind fun r195 => mL_day_s18_j217 sa (sR r195.2 20 (gR e92 20)) 1 c4 c5 (nI n)) else ((mX5_type e92 1886743660 4).bind fun r207 => (mL_digits (sR r207.2 20 (gR e92 20)) (nI (1 + x / 256 % 9))).bind fun r214 => mL_day_s18_j217 sa (sR r214 20 (gR e92 20)) 1 c4 c5 (nI n))))) : ∃ u' b' L', G u = some (.inr (c5 + 1, sR u' 20 (gR u 20))) ∧ RC u' b' L' K O ∧ L' ≤ L + 10 ∧ Pre (tx b') L' (D ++ List.replicate n (iw x, il x)) ∧ ∀ j, j ≠ 0 → j < 80 → b' j = b j := by
  obtain ⟨w0, w1, w3, w2, w59⟩ := ty_w
  have m4 : nI x - nI x / 4 * 4 = nI (x % 4) := i_mod (n := 4) hx (by decide)
  have q4 : ∀ k, k < 4 → (nI (x % 4) = nI k ↔ x % 4 = k) := fun k hk => nI_eq (by omega) (by omega)
  have q40 : nI (x % 4) = 0 ↔ x % 4 = 0 := q4 0 (by decide)
  have q41 : nI (x % 4) = 1 ↔ x % 4 = 1 := q4 1 (by decide)
  have q42 : nI (x % 4) = 2 ↔ x % 4 = 2 := q4 2 (by decide)
  have hnl := nmB_len n
  -- the end: the minutes and a semicolon
  have fin : ∀ (v : KS) (bv : Nat → Int32) (Lv q1 : Nat) (F : Nat → Int32), RC v bv Lv K O → Lv + 4 ≤ 120 → ∃ u' b', mL_day_s18_j217 sa (sR v 20 F) 1 c4 c5 (nI n) = some (.inr (c5 + 1, sR u' 20 F)) ∧ RC u' b' (Lv + (nmB n).length + 1) K O ∧ (∀ i, i < Lv → tx b' i = tx bv i) ∧ (∀ i, i < (nmB n).length → (tx b' (Lv + i)).toInt = (nmB n).getD i 0) ∧ (tx b' (Lv + (nmB n).length)).toInt = 59 ∧ (∀ j, j ≠ 0 → j < 80 → b' j = bv j) := by
    intro v bv Lv q1 F hv hLv
    have hle : (nmB n).length ≤ 3 := by rw [hnl]; split <;> omega
    obtain ⟨u1, b1, p1, p2, p3, p4, p5⟩ := e_digits (hv.row F) (v := n) (by omega) (by omega)
    obtain ⟨u2, b2, r1, r2, r3, r4, r5⟩ := s_type (p2.row F) 59 (n := 1) (by decide) (by decide) (by omega)
    have r1' : mX5_type (sR u1 20 F) 59 1 = some (nI (Lv + (nmB n).length + 1), u2) := r1
    refine ⟨u2, b2, ?_, r2, fun i hi => (r3 i (by omega)).trans (p3 i hi), fun i hi => ?_, ?_, fun j h1 h2 => (r5 j h1 h2).trans (p5 j h1 h2)⟩
    · unfold mL_day_s18_j217
      rw [p1, bs]
      rw [show gR (sR v 20 F) 20 = F from rfl, r1', bs]
      rfl
    · rw [r3 _ (by omega)]; exact p4 i hi
    · have := r4 0 (by decide)
      rw [show Lv + (nmB n).length + 0 = Lv + (nmB n).length from rfl] at this
      rw [this]
      exact w59
  have hle : (nmB n).length ≤ 3 := by rw [hnl]; split <;> omega
  -- a word of five bytes with no strength
  have word5 : ∀ (c : Int64) (w sp : Nat), w < 4 → w ≠ 2 → sp + (wrdL.getD w []).length = 5 → (∀ i, i < 5 → (ty_b c (tcn 5 i)).toInt = (List.replicate sp (32 : Int) ++ wrdL.getD w []).getD i 0) → iw x = w → il x = 0 → ∃ u' b' L', ((mX5_type u c 5).bind fun r155 => mL_day_s18_j217 sa (sR r155.2 20 (gR u 20)) 1 c4 c5 (nI n)) = some (.inr (c5 + 1, sR u' 20 (gR u 20))) ∧ RC u' b' L' K O ∧ L' ≤ L + 10 ∧ Pre (tx b') L' (D ++ List.replicate n (iw x, il x)) ∧ ∀ j, j ≠ 0 → j < 80 → b' j = b j := by
    intro c w sp hw hw2 hsp hb hiw hil
    obtain ⟨u1, b1, p1, p2, p3, p4, p5⟩ := s_type h c (n := 5) (by decide) (by decide) (by omega)
    have p1' : mX5_type u c 5 = some (nI (L + 5), u1) := p1
    obtain ⟨u2, b2, r1, r2, r3, r4, r5, r6⟩ := fin u1 b1 (L + 5) 0 (gR u 20) p2 (by omega)
    refine ⟨u2, b2, L + 5 + (nmB n).length + 1, by rw [p1', bs]; exact r1, r2, by omega, ?_, fun j h1 h2 => (r6 j h1 h2).trans (p5 j h1 h2)⟩
    have hby : ∀ i, i < 5 → (tx b2 (L + i)).toInt = (List.replicate sp (32 : Int) ++ wrdL.getD w []).getD i 0 := fun i hi => by
      rw [r3 _ (by omega), p4 i hi]; exact hb i hi
    rw [hiw, hil]
    refine hP.item (t2 := tx b2) (sp := sp) (w := w) (ld := 0) (n := n) (q1 := L + 5) (q2 := L + 5) (fun i hi => (r3 i (by omega)).trans (p3 i hi)) hw (fun i hi => ?_) (fun i hi => ?_) (by omega) (Or.inr ⟨hw2, rfl, rfl⟩) hn1 hn r4 r5
    · rw [hby i (by omega), List.getD_eq_getElem?_getD, List.getElem?_append_left (by rw [List.length_replicate]; exact hi), List.getElem?_replicate, if_pos hi]
      rfl
    · rw [show L + sp + i = L + (sp + i) by omega, hby (sp + i) (by omega), List.getD_eq_getElem?_getD, List.getElem?_append_right (by rw [List.length_replicate]; omega), List.length_replicate, Nat.add_sub_cancel_left]
      simp only [List.getD_eq_getElem?_getD]
  rw [hG]
  dsimp only
  rw [m4]
  by_cases c0 : x % 4 = 0
  · rw [if_pos (q40.mpr c0)]
    exact word5 _ 0 0 (by decide) (by decide) (by decide) w0 (by unfold iw; rw [if_pos c0]) (by unfold il; rw [if_neg (by omega)])
  · rw [if_neg (fun z => c0 (q40.mp z))]
    by_cases c1 : x % 4 = 1
    · rw [if_pos (q41.mpr c1)]
      exact word5 _ 1 1 (by decide) (by decide) (by decide) w1 (by unfold iw; rw [if_neg c0, if_pos c1]) (by unfold il; rw [if_neg (by omega)])
    · rw [if_neg (fun z => c1 (q41.mp z))]
      by_cases c2 : x % 4 = 2
      · rw [if_pos (q42.mpr c2)]
        exact word5 _ 3 0 (by decide) (by decide) (by decide) w3 (by unfold iw; rw [if_neg c0, if_neg c1, if_pos c2]) (by unfold il; rw [if_neg (by omega)])
      · rw [if_neg (fun z => c2 (q42.mp z))]
        have c3 : x % 4 = 3 := by omega
        have hiw : iw x = 2 := by unfold iw; rw [if_neg c0, if_neg c1, if_neg c2]
        have hil : il x = 1 + x / 256 % 9 := by unfold il; rw [if_pos c3]
        have hll := nmB_len (1 + x / 256 % 9)
        rw [if_neg (by omega)] at hll
        obtain ⟨u1, b1, p1, p2, p3, p4, p5⟩ := s_type h 1886743660 (n := 4) (by decide) (by decide) (by omega)
        have p1' : mX5_type u 1886743660 4 = some (nI (L + 4), u1) := p1
        obtain ⟨u3, b3, t1, t2, t3, t4, t5⟩ := e_digits (p2.row (gR u 20)) (v := 1 + x / 256 % 9) (by omega) (by omega)
        rw [hll] at t2
        obtain ⟨u2, b2, r1, r2, r3, r4, r5, r6⟩ := fin u3 b3 (L + 4 + 2) 0 (gR u 20) t2 (by omega)
        refine ⟨u2, b2, L + 4 + 2 + (nmB n).length + 1, by rw [p1', bs, t1, bs]; exact r1, r2, by omega, ?_, fun j h1 h2 => (r6 j h1 h2).trans ((t5 j h1 h2).trans (p5 j h1 h2))⟩
        rw [hiw, hil]
        refine hP.item (t2 := tx b2) (sp := 0) (w := 2) (ld := 1 + x / 256 % 9) (n := n) (q1 := L + 4) (q2 := L + 4 + 2) (fun i hi => (r3 i (by omega)).trans ((t3 i (by omega)).trans (p3 i hi))) (by decide) (fun i hi => absurd hi (by omega)) (fun i hi => ?_) rfl (Or.inl ⟨rfl, by omega, by omega, fun i hi => ?_, by rw [hll]⟩) hn1 hn r4 r5
        · have hi : i < 4 := hi
          rw [show L + 0 + i = L + i from rfl, r3 _ (by omega), t3 _ (by omega), p4 i hi]
          exact w2 i hi
        · rw [r3 _ (by omega)]
          exact t4 i hi
/-- what day does, item by item -/
theorem e_day {sa : Nat → Nat} (hsa : sa 11 ≤ 260) {u : KS} {b : Nat → Int32} {K : Nat} {O : Nat → Option Nat} {told : Bool} {L0 : Nat} (h : RC u b L0 K O) (hL0 : told = true → L0 = 0) : ∃ u' b' L', mL_day sa u (if told then 1 else 0) = some u' ∧ RC u' b' L' K O ∧ RW (gR u' 20) (dd sa (cl sa 0 % 9)) ∧ (told = true → Pre (tx b') L' (dd sa (cl sa 0 % 9)) ∧ L' ≤ 120) ∧ (told = false → b' = b ∧ L' = L0) ∧ ∀ j, j ≠ 0 → j < 80 → b' j = b j := by
  have key : ∀ n i (v : KS) (bv : Nat → Int32) (Lv : Nat), i + n = cl sa 0 % 9 → RC v bv Lv K O → RW (gR v 20) (dd sa i) → (told = true → Pre (tx bv) Lv (dd sa i) ∧ Lv ≤ 10 * i) → (told = false → bv = b ∧ Lv = L0) → (∀ j, j ≠ 0 → j < 80 → bv j = b j) → ∃ u' b' L', lpF (mL_day_s18 sa (if told then 1 else 0) (nI (cl sa 0 % 9))) (nI i, v) = some u' ∧ RC u' b' L' K O ∧ RW (gR u' 20) (dd sa (cl sa 0 % 9)) ∧ (told = true → Pre (tx b') L' (dd sa (cl sa 0 % 9)) ∧ L' ≤ 120) ∧ (told = false → b' = b ∧ L' = L0) ∧ ∀ j, j ≠ 0 → j < 80 → b' j = b j := by
    intro n
    induction n with
    | zero =>
      intro i v bv Lv hi h1 h2 h3 h4 h5
      have hi : i = cl sa 0 % 9 := hi
      subst hi
      refine ⟨v, bv, Lv, lp_stop ?_, h1, h2, fun ht => ⟨(h3 ht).1, by have := (h3 ht).2; omega⟩, h4, h5⟩
      unfold mL_day_s18
      dsimp only
      rw [if_pos (Int32.le_refl _)]
    | succ n ih =>
      intro i v bv Lv hi h1 h2 h3 h4 h5
      have hlen := dd_le sa i
      obtain ⟨x, hx⟩ : ∃ x, x = cl sa (1 + i) := ⟨_, rfl⟩
      have hxl : x < 2147483648 := by rw [hx]; exact cl_lt _ _
      have ec : mL_cell sa (1 + nI i) = some (nI x) := by
        rw [show (1 : Int32) = nI 1 from rfl, i_add, hx]
        exact e_cell hsa (by omega)
      have s2 : nI x >>> ((2 : Int32) &&& 31) = nI (x / 4) := i_shr (k := 2) hxl (by decide)
      have s8 : nI x >>> ((8 : Int32) &&& 31) = nI (x / 256) := i_shr (k := 8) hxl (by decide)
      have m14 : nI (x / 4) - nI (x / 4) / 14 * 14 = nI (x / 4 % 14) := i_mod (n := 14) (by omega) (by decide)
      have m9 : nI (x / 256) - nI (x / 256) / 9 * 9 = nI (x / 256 % 9) := i_mod (n := 9) (by omega) (by decide)
      have e63 : gR v 20 ((63 : Int32).toNatClampNeg) = nI (dd sa i).length := h2.1
      have a1 : (1 : Int32) + nI (x / 4 % 14) = nI (1 + x / 4 % 14) := i_add 1 _
      have a9 : (1 : Int32) + nI (x / 256 % 9) = nI (1 + x / 256 % 9) := i_add 1 _
      -- either way n is what it is
      have hst : mL_day_s18 sa (if told then 1 else 0) (nI (cl sa 0 % 9)) (nI i, v) = mL_day_s18_j70 sa v (if told then 1 else 0) (nI (cl sa 0 % 9)) (nI i) (nI x) (nI (im x (dd sa i).length)) := by
        unfold mL_day_s18
        dsimp only
        rw [if_neg (show ¬ nI (cl sa 0 % 9) ≤ nI i from nI_ge (by omega) (by omega)), ec, bs, s2, m14, e63, a1, i_add]
        unfold im
        by_cases c : (dd sa i).length + (1 + x / 4 % 14) ≤ 60
        · rw [if_pos (show nI _ ≤ 60 from nI_le (b := 60) c (by decide)), Nat.min_eq_left (by omega)]
        · rw [if_neg (show ¬ nI _ ≤ 60 from nI_ge (a := 60) (by omega) (by omega)), Nat.min_eq_right (by omega), show (60 : Int32) = nI 60 from rfl, i_sub hlen (by decide)]
      have hdd : dd sa (i + 1) = dd sa i ++ List.replicate (im x (dd sa i).length) (iw x, il x) := by rw [hx]; rfl
      have himle : (dd sa i).length + im x (dd sa i).length ≤ 60 := by unfold im; omega
      generalize hm : im x (dd sa i).length = mm at *
      have next : ∀ (u1 : KS) (b1 : Nat → Int32) (L1 : Nat), mL_day_s18 sa (if told then 1 else 0) (nI (cl sa 0 % 9)) (nI i, v) = some (.inr (nI i + 1, u1)) → RC u1 b1 L1 K O → RW (gR u1 20) (dd sa (i + 1)) → (told = true → Pre (tx b1) L1 (dd sa (i + 1)) ∧ L1 ≤ 10 * (i + 1)) → (told = false → b1 = b ∧ L1 = L0) → (∀ j, j ≠ 0 → j < 80 → b1 j = b j) → ∃ u' b' L', lpF (mL_day_s18 sa (if told then 1 else 0) (nI (cl sa 0 % 9))) (nI i, v) = some u' ∧ RC u' b' L' K O ∧ RW (gR u' 20) (dd sa (cl sa 0 % 9)) ∧ (told = true → Pre (tx b') L' (dd sa (cl sa 0 % 9)) ∧ L' ≤ 120) ∧ (told = false → b' = b ∧ L' = L0) ∧ ∀ j, j ≠ 0 → j < 80 → b' j = b j := by
        intro u1 b1 L1 g1 g2 g3 g4 g5 g6
        rw [i_s] at g1
        rw [lp_go g1]
        exact ih (i + 1) u1 b1 L1 (by omega) g2 g3 g4 g5 g6
      by_cases c : mm = 0
      · subst c
        have hdd' : dd sa (i + 1) = dd sa i := by rw [hdd]; simp
        refine next v bv Lv ?_ h1 (by rw [hdd']; exact h2) (fun ht => by rw [hdd']; exact ⟨(h3 ht).1, by have := (h3 ht).2; omega⟩) h4 h5
        rw [hst]
        unfold mL_day_s18_j70
        rw [if_pos (show nI 0 ≤ 0 by decide)]
        rfl
      · obtain ⟨F, f1, f2, f3, f4⟩ := e_rowL (sa := sa) (c2 := if told then 1 else 0) (c4 := nI (cl sa 0 % 9)) (c5 := nI i) hxl himle v (gR v 20) rfl h2.1
        have hRW : RW F (dd sa (i + 1)) := by
          rw [hdd]
          refine ⟨by rw [len_app]; exact f2, fun m hm2 => ?_⟩
          rw [cd_app hm2]
          rw [len_app] at hm2
          by_cases d : m < (dd sa i).length
          · rw [if_pos d, f3 m d]; exact h2.2 m d
          · rw [if_neg d]; exact f4 m (by omega) hm2
        have hst2 : mL_day_s18 sa (if told then 1 else 0) (nI (cl sa 0 % 9)) (nI i, v) = if (if told then (1 : Int32) else 0) = 0 then mL_day_s18_j232 sa (sR v 20 F) (if told then 1 else 0) (nI (cl sa 0 % 9)) (nI i) else (fun e92 => if (nI x - nI x / 4 * 4) = 0 then ((mX5_type e92 495873781348 5).bind fun r155 => mL_day_s18_j217 sa (sR r155.2 20 (gR e92 20)) (if told then 1 else 0) (nI (cl sa 0 % 9)) (nI i) (nI mm)) else (if (nI x - nI x / 4 * 4) = 1 then ((mX5_type e92 139207142501 5).bind fun r175 => mL_day_s18_j217 sa (sR r175.2 20 (gR e92 20)) (if told then 1 else 0) (nI (cl sa 0 % 9)) (nI i) (nI mm)) else (if (nI x - nI x / 4 * 4) = 2 then ((mX5_type e92 427070419828 5).bind fun r195 => mL_day_s18_j217 sa (sR r195.2 20 (gR e92 20)) (if told then 1 else 0) (nI (cl sa 0 % 9)) (nI i) (nI mm)) else ((mX5_type e92 1886743660 4).bind fun r207 => (mL_digits (sR r207.2 20 (gR e92 20)) (nI (1 + x / 256 % 9))).bind fun r214 => mL_day_s18_j217 sa (sR r214 20 (gR e92 20)) (if told then 1 else 0) (nI (cl sa 0 % 9)) (nI i) (nI mm))))) (sR v 20 F) := by
          rw [hst]
          unfold mL_day_s18_j70
          rw [if_neg (nI_nle (by omega) (by omega)), s8, m9, a9, f1, bs]
        cases told with
        | false =>
          refine next (sR v 20 F) bv Lv ?_ (h1.row F) hRW (fun ht => (by cases ht)) h4 h5
          rw [hst2]
          rfl
        | true =>
          have h3' := h3 rfl
          have hi9 : i < 9 := by have := Nat.mod_lt (cl sa 0) (show 0 < 9 by decide); omega
          obtain ⟨u1, b1, L1, y1, y2, y3, y4, y5⟩ := e_typed (h1.row F) h3'.1 (x := x) (n := mm) (by omega) himle (by omega) (sa := sa) (c4 := nI (cl sa 0 % 9)) (c5 := nI i) hxl _ rfl
          have hst3 := hst2
          rw [if_neg (show ¬ (if true = true then (1 : Int32) else 0) = 0 by decide)] at hst3
          refine next (sR u1 20 F) b1 L1 (hst3.trans y1) (y2.row F) hRW (fun _ => ⟨by rw [hdd]; exact y4, by omega⟩) (fun z => (by cases z)) (fun j q1 q2 => (y5 j q1 q2).trans (h5 j q1 q2))
  have e0 : mL_cell sa 0 = some (nI (cl sa 0)) := e_cell hsa (k := 0) (by decide)
  have hc0 := cl_lt sa 0
  have m9 : nI (cl sa 0) - nI (cl sa 0) / 9 * 9 = nI (cl sa 0 % 9) := i_mod (n := 9) hc0 (by decide)
  obtain ⟨u', b', L', k1, k2⟩ := key (cl sa 0 % 9) 0 (sR u 20 (fun _ => 0)) b L0 (by omega) (h.row _) ⟨rfl, fun m hm => absurd hm (Nat.not_lt_zero _)⟩ (fun ht => by rw [hL0 ht]; exact ⟨Pre.nil _, Nat.zero_le _⟩) (fun _ => ⟨rfl, rfl⟩) (fun j _ _ => rfl)
  refine ⟨u', b', L', ?_, k2⟩
  have k1' : lpF (mL_day_s18 sa (if told then 1 else 0) (nI (cl sa 0 % 9))) (0, sR u 20 (fun _ => 0)) = some u' := k1
  unfold mL_day mL_day5
  rw [e0, bs, m9, k1', bs]
