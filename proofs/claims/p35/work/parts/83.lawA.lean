/-! the law to the day by cells: tells, looked -/
def b00 : Nat → Int32 := fun j => if j = 5 then 5 else if j = 6 then 8 else if j = 7 then 9 else if 8 ≤ j ∧ j < 15 then 1 else if 15 ≤ j ∧ j < 19 then -1 else 0
theorem rc_0 : RC kX0 b00 0 0 (fun _ => none) := by
  have h8 : ∀ i, i < 7 → b00 (8 + i) = 1 := fun i hi => by
    unfold b00
    rw [if_neg (by omega), if_neg (by omega), if_neg (by omega), if_pos (by omega)]
  have h15 : ∀ i, i < 4 → b00 (15 + i) = -1 := fun i hi => by
    unfold b00
    rw [if_neg (by omega), if_neg (by omega), if_neg (by omega), if_neg (by omega), if_pos (by omega)]
  refine ⟨⟨⟨by decide, rfl, rfl, fun i hi => absurd hi (Nat.not_lt_zero _)⟩, ⟨fun i hi => ?_, by decide, by decide, by decide, by decide⟩, fun i hi => ?_, fun i hi => ?_, ⟨by decide, rfl, rfl, fun i hi => absurd hi (Nat.not_lt_zero _), fun i hi => absurd hi (Nat.not_lt_zero _)⟩, ⟨by decide, rfl, rfl, fun i hi => absurd hi (Nat.not_lt_zero _), fun i hi => absurd hi (Nat.not_lt_zero _)⟩⟩, ⟨Or.inl rfl, Or.inl rfl⟩, rfl, ⟨0, 1, ⟨by decide, by decide⟩, fun k hk => ?_⟩, rfl⟩
  · rcases (show i = 0 ∨ i = 1 ∨ i = 2 ∨ i = 3 by omega) with q | q | q | q <;> subst q <;> rfl
  · rw [h8 i hi]
    refine ⟨?_, by decide, by decide⟩
    rcases (show i = 0 ∨ i = 1 ∨ i = 2 ∨ i = 3 ∨ i = 4 ∨ i = 5 ∨ i = 6 by omega) with q | q | q | q | q | q | q <;> subst q <;> rfl
  · rw [h15 i hi]
    refine ⟨?_, by decide, by decide⟩
    rcases (show i = 0 ∨ i = 1 ∨ i = 2 ∨ i = 3 by omega) with q | q | q | q <;> subst q <;> rfl
  · rcases (show k = 0 ∨ k = 1 ∨ k = 2 by omega) with q | q | q <;> subst q <;> exact ⟨rfl, rfl⟩
/-- how warm it is ahead of all minutes -/
def fst_ (sa : Nat → Nat) : Nat := if cl sa 10 % 3 = 0 then cl sa 10 / 4 % 101 else 0
theorem fst_le (sa : Nat → Nat) : fst_ sa ≤ 100 := by
  unfold fst_
  split <;> omega
theorem e_cl {sa : Nat → Nat} (hsa : sa 11 ≤ 260) (k : Nat) (hk : k < 1000) : mL_cell sa (nI k) = some (nI (cl sa k)) ∧ cl sa k < 2147483648 := ⟨e_cell hsa (by omega), cl_lt sa k⟩
theorem e_first {sa : Nat → Nat} (hsa : sa 11 ≤ 260) : mL_first sa = some (nI (fst_ sa)) := by
  obtain ⟨h1, h2⟩ := e_cl hsa 10 (by decide)
  have h1' : mL_cell sa 10 = some (nI (cl sa 10)) := h1
  have m3 : nI (cl sa 10) - nI (cl sa 10) / 3 * 3 = nI (cl sa 10 % 3) := i_mod (n := 3) h2 (by decide)
  have s2 : nI (cl sa 10) >>> ((2 : Int32) &&& 31) = nI (cl sa 10 / 4) := i_shr (k := 2) h2 (by decide)
  have m101 : nI (cl sa 10 / 4) - nI (cl sa 10 / 4) / 101 * 101 = nI (cl sa 10 / 4 % 101) := i_mod (n := 101) (by omega) (by decide)
  have q0 : nI (cl sa 10 % 3) = 0 ↔ cl sa 10 % 3 = 0 := nI_eq (b := 0) (by omega) (by decide)
  unfold mL_first fst_
  rw [h1', bs, m3]
  by_cases c : cl sa 10 % 3 = 0
  · rw [if_pos (q0.mpr c), if_pos c, bs, s2, m101]
  · rw [if_neg (fun z => c (q0.mp z)), if_neg c]
    rfl
theorem e_thin {sa : Nat → Nat} (hsa : sa 11 ≤ 260) : ∃ t, mL_thin sa = some (nI t) ∧ 1 ≤ t ∧ t ≤ 40 := by
  obtain ⟨h1, h2⟩ := e_cl hsa 11 (by decide)
  have h1' : mL_cell sa 11 = some (nI (cl sa 11)) := h1
  have m2 : nI (cl sa 11) - nI (cl sa 11) / 2 * 2 = nI (cl sa 11 % 2) := i_mod (n := 2) h2 (by decide)
  have s2 : nI (cl sa 11) >>> ((2 : Int32) &&& 31) = nI (cl sa 11 / 4) := i_shr (k := 2) h2 (by decide)
  have m12 : nI (cl sa 11 / 4) - nI (cl sa 11 / 4) / 12 * 12 = nI (cl sa 11 / 4 % 12) := i_mod (n := 12) (by omega) (by decide)
  have m40 : nI (cl sa 11 / 4) - nI (cl sa 11 / 4) / 40 * 40 = nI (cl sa 11 / 4 % 40) := i_mod (n := 40) (by omega) (by decide)
  have a1 : ∀ y, (1 : Int32) + nI y = nI (1 + y) := fun y => i_add 1 y
  unfold mL_thin
  rw [h1', bs, bs, m2, s2, m12, m40, a1, a1]
  by_cases c : nI (cl sa 11 % 2) = 0
  · rw [if_pos c]
    exact ⟨_, rfl, by omega, by omega⟩
  · rw [if_neg c]
    exact ⟨_, rfl, by omega, by omega⟩
theorem e_right {sa : Nat → Nat} (hsa : sa 11 ≤ 260) : ∃ t, mL_right sa = some (nI t) ∧ 1 ≤ t ∧ t ≤ 9 := by
  obtain ⟨h1, h2⟩ := e_cl hsa 11 (by decide)
  have h1' : mL_cell sa 11 = some (nI (cl sa 11)) := h1
  have s8 : nI (cl sa 11) >>> ((8 : Int32) &&& 31) = nI (cl sa 11 / 256) := i_shr (k := 8) h2 (by decide)
  have m9 : nI (cl sa 11 / 256) - nI (cl sa 11 / 256) / 9 * 9 = nI (cl sa 11 / 256 % 9) := i_mod (n := 9) (by omega) (by decide)
  unfold mL_right
  rw [h1', bs, s8, m9, show (1 : Int32) = nI 1 from rfl, i_add]
  exact ⟨_, rfl, by omega, by omega⟩
theorem e_sound {sa : Nat → Nat} (hsa : sa 11 ≤ 260) : ∃ t, mL_sound sa = some (nI t) ∧ t ≤ 99 := by
  obtain ⟨h1, h2⟩ := e_cl hsa 11 (by decide)
  have h1' : mL_cell sa 11 = some (nI (cl sa 11)) := h1
  have s12 : nI (cl sa 11) >>> ((12 : Int32) &&& 31) = nI (cl sa 11 / 4096) := i_shr (k := 12) h2 (by decide)
  have m100 : nI (cl sa 11 / 4096) - nI (cl sa 11 / 4096) / 100 * 100 = nI (cl sa 11 / 4096 % 100) := i_mod (n := 100) (by omega) (by decide)
  unfold mL_sound
  rw [h1', bs, s12, m100]
  exact ⟨_, rfl, by omega⟩
theorem e_priorL {sa : Nat → Nat} (hsa : sa 11 ≤ 260) {k : Nat} (hk : k < 7) : ∃ t, mL_prior sa (nI k) = some (nI t) ∧ t ≤ 9 := by
  obtain ⟨h1, h2⟩ := e_cl hsa 12 (by decide)
  have h1' : mL_cell sa 12 = some (nI (cl sa 12)) := h1
  have hs : nI (cl sa 12) >>> ((4 * nI k) &&& 31) = nI (cl sa 12 / 2 ^ (4 * k)) := by
    rw [show (4 : Int32) * nI k = nI (4 * k) from i_mul 4 k]
    exact i_shr h2 (by omega)
  have hd : cl sa 12 / 2 ^ (4 * k) ≤ cl sa 12 := Nat.div_le_self _ _
  generalize cl sa 12 / 2 ^ (4 * k) = y at *
  have m5 : nI y - nI y / 5 * 5 = nI (y % 5) := i_mod (n := 5) (by omega) (by decide)
  have m10 : nI y - nI y / 10 * 10 = nI (y % 10) := i_mod (n := 10) (by omega) (by decide)
  unfold mL_prior
  rw [h1', bs, hs, m5, m10]
  by_cases c : nI k = 6
  · rw [if_pos c]
    exact ⟨_, rfl, by omega⟩
  · rw [if_neg c]
    exact ⟨_, rfl, by omega⟩
theorem e_lookL {sa : Nat → Nat} (hsa : sa 11 ≤ 260) {k : Nat} (hk : k < 4) : ∃ a1 a2 a3 a4, mL_look sa (nI k) 0 = some a1 ∧ mL_look sa (nI k) 1 = some a2 ∧ mL_look sa (nI k) 2 = some a3 ∧ mL_look sa (nI k) 3 = some a4 ∧ vLook a1 a2 a3 a4 := by
  obtain ⟨h1, h2⟩ := e_cl hsa (14 + k) (by omega)
  have h1' : mL_cell sa (14 + nI k) = some (nI (cl sa (14 + k))) := by
    rw [show (14 : Int32) = nI 14 from rfl, i_add]
    exact h1
  generalize cl sa (14 + k) = x at *
  have m70 : nI x - nI x / 70 * 70 = nI (x % 70) := i_mod (n := 70) h2 (by decide)
  have s7 : nI x >>> ((7 : Int32) &&& 31) = nI (x / 128) := i_shr (k := 7) h2 (by decide)
  have s9 : nI x >>> ((9 : Int32) &&& 31) = nI (x / 512) := i_shr (k := 9) h2 (by decide)
  have s13 : nI x >>> ((13 : Int32) &&& 31) = nI (x / 8192) := i_shr (k := 13) h2 (by decide)
  have m4 : nI (x / 128) - nI (x / 128) / 4 * 4 = nI (x / 128 % 4) := i_mod (n := 4) (by omega) (by decide)
  have m9 : nI (x / 512) - nI (x / 512) / 9 * 9 = nI (x / 512 % 9) := i_mod (n := 9) (by omega) (by decide)
  have m3 : nI (x / 8192) - nI (x / 8192) / 3 * 3 = nI (x / 8192 % 3) := i_mod (n := 3) (by omega) (by decide)
  have z1 : (nI (x % 70)).toInt = ((x % 70 : Nat) : Int) := z_nN (by omega)
  have z2 : (nI (x / 128 % 4)).toInt = ((x / 128 % 4 : Nat) : Int) := z_nN (by omega)
  have z3 : (nI (x / 512 % 9)).toInt = ((x / 512 % 9 : Nat) : Int) := z_nN (by omega)
  have z4 : (nI (x / 8192 % 3)).toInt = ((x / 8192 % 3 : Nat) : Int) := z_nN (by omega)
  refine ⟨nI (x % 70), nI (x / 128 % 4), if 4 ≤ nI (x / 512 % 9) then -1 else nI (x / 512 % 9), nI (x / 8192 % 3), ?_, ?_, ?_, ?_, ?_⟩
  · unfold mL_look
    rw [h1', bs, if_pos rfl, m70]
  · unfold mL_look
    rw [h1', bs, if_neg (by decide), if_pos rfl, s7, m4]
  · unfold mL_look
    rw [h1', bs, if_neg (by decide), if_neg (by decide), if_pos rfl, s9, m9]
    by_cases c : 4 ≤ nI (x / 512 % 9)
    · rw [if_pos c, if_pos c]
    · rw [if_neg c, if_neg c]
  · unfold mL_look
    rw [h1', bs, if_neg (by decide), if_neg (by decide), if_neg (by decide), s13, m3]
  · unfold vLook
    refine ⟨by omega, by omega, ?_, by omega⟩
    by_cases c : 4 ≤ nI (x / 512 % 9)
    · rw [if_pos c]
      exact ⟨by decide, by decide⟩
    · rw [if_neg c]
      rw [z_le, z3, show (4 : Int32).toInt = 4 from rfl] at c
      omega
theorem e_looksL {sa : Nat → Nat} (hsa : sa 11 ≤ 260) : mL_looks sa = some (nI (cl sa 13 % 4)) := by
  obtain ⟨h1, h2⟩ := e_cl hsa 13 (by decide)
  have h1' : mL_cell sa 13 = some (nI (cl sa 13)) := h1
  have m4 : nI (cl sa 13) - nI (cl sa 13) / 4 * 4 = nI (cl sa 13 % 4) := i_mod (n := 4) h2 (by decide)
  unfold mL_looks
  rw [h1', bs, m4]
theorem e_tells {sa : Nat → Nat} (hsa : sa 11 ≤ 260) : ∃ u b L, mL_tells sa kX0 = some (1, u) ∧ RC u b L 0 (fun _ => none) ∧ day (tx b) L = .inr (dd sa (cl sa 0 % 9)) ∧ b 4 = nI (fst_ sa) ∧ ∀ j, 4 < j → j < 20 → b j = b00 j := by
  obtain ⟨u1, b1, L1, p1, p2, p3, p4, p5, p6⟩ := e_day (sa := sa) hsa (told := true) rc_0 (fun _ => rfl)
  obtain ⟨hP, hL⟩ := p4 rfl
  have hd := hP.fin hL
  have hf := fst_le sa
  have zf : (nI (fst_ sa)).toInt = (fst_ sa : Int) := z_nN (by omega)
  obtain ⟨u2, q1, q2⟩ := s_put p2 (j := 0) (x := nI (fst_ sa)) (by decide) (by unfold vPut; left; exact ⟨rfl, by omega, by omega⟩)
  have q1' : mX5_put u1 0 (nI (fst_ sa)) = some (0, u2) := by
    have e4 : b1 (4 + 0) = 0 := (p6 4 (by decide) (by decide)).trans rfl
    rw [e4] at q1
    exact q1
  have hd2 : day (tx (upd b1 (4 + 0) (nI (fst_ sa)))) L1 = .inr (dd sa (cl sa 0 % 9)) := by rw [tx_up (by decide)]; exact hd
  obtain ⟨u3, r1, r2⟩ := s_faulty q2 hd2
  refine ⟨u3, _, L1, ?_, r2, hd2, u_is _ _ _, fun j h1 h2 => (u_no _ _ _ (by omega)).trans (p6 j (by omega) (by omega))⟩
  have p1' : mL_day sa kX0 1 = some u1 := p1
  unfold mL_tells
  rw [p1', bs, e_first hsa, bs, q1', bs, gd_t rfl, r1, bs, gd_t rfl]
theorem e_looked {sa : Nat → Nat} (hsa : sa 11 ≤ 260) {u : KS} {b : Nat → Int32} {L : Nat} {O : Nat → Option Nat} (h : RC u b L 0 O) (hb : ∀ j, 4 < j → j < 20 → b j = b00 j) : ∃ u' b', mL_looked sa u = some (1, u') ∧ RC u' b' L (cl sa 13 % 4) O ∧ tx b' = tx b ∧ b' 4 = b 4 ∧ ∀ j, 15 ≤ j → j < 20 → b' j = b j := by
  obtain ⟨t1, a1, a2, a3⟩ := e_thin hsa
  obtain ⟨t2, c1, c2, c3⟩ := e_right hsa
  obtain ⟨t3, d1, d2⟩ := e_sound hsa
  have z1 : (nI t1).toInt = (t1 : Int) := z_nN (by omega)
  have z2 : (nI t2).toInt = (t2 : Int) := z_nN (by omega)
  have z3 : (nI t3).toInt = (t3 : Int) := z_nN (by omega)
  obtain ⟨u1, p1, p2⟩ := s_put h (j := 1) (x := nI t1) (by decide) (by unfold vPut; right; left; exact ⟨rfl, by omega, by omega⟩)
  obtain ⟨u2, q1, q2⟩ := s_put p2 (j := 2) (x := nI t2) (by decide) (by unfold vPut; right; right; left; exact ⟨rfl, by omega, by omega⟩)
  obtain ⟨u3, r1, r2⟩ := s_put q2 (j := 3) (x := nI t3) (by decide) (by unfold vPut; right; right; right; exact ⟨rfl, by omega, by omega⟩)
  have p1' : mX5_put u 1 (nI t1) = some (5, u1) := by
    rw [show b (4 + 1) = 5 from (hb 5 (by decide) (by decide)).trans rfl] at p1
    exact p1
  have q1' : mX5_put u1 2 (nI t2) = some (8, u2) := by
    rw [u_no _ _ _ (show 4 + 2 ≠ 4 + 1 by decide), show b (4 + 2) = 8 from (hb 6 (by decide) (by decide)).trans rfl] at q1
    exact q1
  have r1' : mX5_put u2 3 (nI t3) = some (9, u3) := by
    rw [u_no _ _ _ (show 4 + 3 ≠ 4 + 2 by decide), u_no _ _ _ (show 4 + 3 ≠ 4 + 1 by decide), show b (4 + 3) = 9 from (hb 7 (by decide) (by decide)).trans rfl] at r1
    exact r1
  obtain ⟨b3, hb3⟩ : ∃ b3, b3 = upd (upd (upd b (4 + 1) (nI t1)) (4 + 2) (nI t2)) (4 + 3) (nI t3) := ⟨_, rfl⟩
  rw [← hb3] at r2
  have n3 : ∀ j, j ≠ 5 → j ≠ 6 → j ≠ 7 → b3 j = b j := fun j h1 h2 h3 => by rw [hb3, u_no _ _ _ (by omega), u_no _ _ _ (by omega), u_no _ _ _ (by omega)]
  have k49 : ∀ n k (v : KS) (bv : Nat → Int32), k + n = 7 → RC v bv L 0 O → tx bv = tx b → (bv 4 = b 4 ∧ ∀ j, 15 ≤ j → j < 20 → bv j = b j) → (∀ i, k ≤ i → i < 7 → bv (8 + i) = 1) → ∃ v' b', lpF (mL_looked_s49 sa) (nI k, v) = some v' ∧ RC v' b' L 0 O ∧ tx b' = tx b ∧ b' 4 = b 4 ∧ ∀ j, 15 ≤ j → j < 20 → b' j = b j := by
    intro n
    induction n with
    | zero =>
      intro k v bv h0 h1 h2 h3 h4
      have h0 : k = 7 := h0
      subst h0
      refine ⟨v, bv, lp_stop ?_, h1, h2, h3⟩
      unfold mL_looked_s49
      dsimp only
      rw [if_pos (by decide)]
    | succ n ih =>
      intro k v bv h0 h1 h2 h3 h4
      obtain ⟨t, e1, e2⟩ := e_priorL hsa (k := k) (by omega)
      obtain ⟨v1, f1, f2⟩ := s_prior h1 (k := k) (v := t) (by omega) e2
      rw [h4 k (Nat.le_refl _) (by omega)] at f1
      have st : mL_looked_s49 sa (nI k, v) = some (.inr (nI (k + 1), v1)) := by
        unfold mL_looked_s49
        dsimp only
        rw [if_neg (show ¬ (7 : Int32) ≤ nI k from nI_ge (b := 7) (by omega) (by decide)), e1, bs, f1, bs, gd_t rfl, i_s]
      rw [lp_go st]
      exact ih (k + 1) v1 _ (by omega) f2 ((tx_up (by omega)).trans h2) ⟨(u_no _ _ _ (by omega)).trans h3.1, fun j q1 q2 => (u_no _ _ _ (by omega)).trans (h3.2 j q1 q2)⟩ (fun i g1 g2 => (u_no _ _ _ (by omega)).trans (h4 i (by omega) g2))
  obtain ⟨u4, b4, s1, s2, s3, s4⟩ := k49 7 0 u3 b3 rfl r2 (funext fun i => n3 (80 + i) (by omega) (by omega) (by omega)) ⟨n3 4 (by decide) (by decide) (by decide), fun j q1 q2 => n3 j (by omega) (by omega) (by omega)⟩ (fun i _ hi => by
    rw [n3 _ (by omega) (by omega) (by omega), hb _ (by omega) (by omega)]
    unfold b00
    rw [if_neg (by omega), if_neg (by omega), if_neg (by omega), if_pos (by omega)])
  have hK4 : cl sa 13 % 4 < 4 := Nat.mod_lt _ (by decide)
  have k87 : ∀ n k (v : KS) (bv : Nat → Int32), k + n = cl sa 13 % 4 → RC v bv L k O → tx bv = tx b → (bv 4 = b 4 ∧ ∀ j, 15 ≤ j → j < 20 → bv j = b j) → ∃ v' b', lpF (mL_looked_s87 sa) (nI k, v) = some v' ∧ RC v' b' L (cl sa 13 % 4) O ∧ tx b' = tx b ∧ b' 4 = b 4 ∧ ∀ j, 15 ≤ j → j < 20 → b' j = b j := by
    intro n
    induction n with
    | zero =>
      intro k v bv h0 h1 h2 h3
      have h0 : k = cl sa 13 % 4 := h0
      subst h0
      refine ⟨v, bv, lp_stop ?_, h1, h2, h3⟩
      unfold mL_looked_s87
      dsimp only
      rw [e_looksL hsa, bs, if_pos (Int32.le_refl _)]
    | succ n ih =>
      intro k v bv h0 h1 h2 h3
      obtain ⟨x1, x2, x3, x4, e1, e2, e3, e4, e5⟩ := e_lookL hsa (k := k) (by omega)
      obtain ⟨v1, b1, f1, f2, f3⟩ := s_look h1 (by omega) e5
      have st : mL_looked_s87 sa (nI k, v) = some (.inr (nI (k + 1), v1)) := by
        unfold mL_looked_s87
        dsimp only
        rw [e_looksL hsa, bs, if_neg (show ¬ nI (cl sa 13 % 4) ≤ nI k from nI_ge (by omega) (by omega)), e1, bs, e2, bs, e3, bs, e4, bs, f1, bs, gd_t rfl, i_s]
      rw [lp_go st]
      exact ih (k + 1) v1 b1 (by omega) f2 ((funext fun i => f3 (80 + i) (by omega) (by omega)).trans h2) ⟨(f3 4 (by decide) (by decide)).trans h3.1, fun j q1 q2 => (f3 j (by omega) (by omega)).trans (h3.2 j q1 q2)⟩
  obtain ⟨u5, b5', t1', t2', t3', t4'⟩ := k87 (cl sa 13 % 4) 0 u4 b4 (by omega) s2 s3 s4
  refine ⟨u5, b5', ?_, t2', t3', t4'⟩
  have s1' : lpF (mL_looked_s49 sa) (0, u3) = some u4 := s1
  have t1'' : lpF (mL_looked_s87 sa) (0, u4) = some u5 := t1'
  unfold mL_looked
  rw [a1, bs, p1', bs, gd_t rfl, c1, bs, q1', bs, gd_t rfl, d1, bs, r1', bs, gd_t rfl, s1', bs, t1'', bs]
theorem e_lawA {sa : Nat → Nat} (hsa : sa 11 ≤ 260) : ∃ u b L, mL_lawA sa kX0 = some u ∧ RC u b L (cl sa 13 % 4) (fun _ => none) ∧ day (tx b) L = .inr (dd sa (cl sa 0 % 9)) ∧ RW (gR u 20) (dd sa (cl sa 0 % 9)) ∧ b 4 = nI (fst_ sa) ∧ ∀ i, i < 4 → b (15 + i) = -1 := by
  obtain ⟨u1, b1, L, p1, p2, p3, p4, p5⟩ := e_tells hsa
  obtain ⟨u2, b2, q1, q2, q3, q4, q5⟩ := e_looked hsa p2 p5
  obtain ⟨u3, b3, L3, r1, r2, r3, r4, r5, r6⟩ := e_day (sa := sa) hsa (told := false) q2 (fun z => (by cases z))
  obtain ⟨e1, e2⟩ := r5 rfl
  subst e1 e2
  refine ⟨u3, b3, L3, ?_, r2, ?_, r3, q4.trans p4, fun i hi => ?_⟩
  · have r1' : mL_day sa u2 0 = some u3 := r1
    unfold mL_lawA
    rw [p1, bs, gd_t (show ¬ ((1 : Int32) = 0) by decide), q1, bs, gd_t (show ¬ ((1 : Int32) = 0) by decide), r1', bs]
  · rw [q3]
    exact p3
  · rw [q5 _ (by omega) (by omega), p5 _ (by omega) (by omega)]
    unfold b00
    rw [if_neg (by omega), if_neg (by omega), if_neg (by omega), if_neg (by omega), if_pos (by omega)]
