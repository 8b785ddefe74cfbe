/-! faults, and the smoke of all cylinders less one -/
def fa (sa : Nat → Nat) (i : Nat) : Nat := 3 * (cl sa (20 + i) / 4 % 7) + cl sa (20 + i) / 32 % 3
def mo (sa : Nat → Nat) (i : Nat) : Int32 := if cl sa (20 + i) % 4 = 0 then -1 else nI (fa sa i)
theorem fa_lt (sa : Nat → Nat) (i : Nat) : fa sa i < 21 := by unfold fa; omega
section SMO
variable {sa : Nat → Nat} {L K : Nat} {O : Nat → Option Nat} {D : List (Nat × Nat)} {F : Nat → Int32}
/-- the cell of a cylinder, as the law takes it apart -/
theorem cell20 (hsa : sa 11 ≤ 260) {c : Nat} (hc : c < 4) : ∃ x, x = cl sa (20 + c) ∧ mL_cell sa (20 + nI c) = some (nI x) ∧ nI x - nI x / 4 * 4 = nI (x % 4) ∧ (nI (x % 4) = 0 ↔ x % 4 = 0) ∧ (nI x >>> ((2 : Int32) &&& 31) : Int32) - (nI x >>> ((2 : Int32) &&& 31) : Int32) / 7 * 7 = nI (x / 4 % 7) ∧ 1 + ((nI x >>> ((5 : Int32) &&& 31) : Int32) - (nI x >>> ((5 : Int32) &&& 31) : Int32) / 3 * 3) = nI (1 + x / 32 % 3) := by
  obtain ⟨h1, h2⟩ := e_cl hsa (20 + c) (by omega)
  refine ⟨_, rfl, ?_, ?_, ?_, ?_, ?_⟩
  · rw [show (20 : Int32) = nI 20 from rfl, i_add]
    exact h1
  · exact i_mod (n := 4) h2 (by decide)
  · exact nI_eq (b := 0) (by omega) (by decide)
  · rw [show nI (cl sa (20 + c)) >>> ((2 : Int32) &&& 31) = nI (cl sa (20 + c) / 4) from i_shr (k := 2) h2 (by decide)]
    exact i_mod (n := 7) (by omega) (by decide)
  · rw [show nI (cl sa (20 + c)) >>> ((5 : Int32) &&& 31) = nI (cl sa (20 + c) / 32) from i_shr (k := 5) h2 (by decide), show nI (cl sa (20 + c) / 32) - nI (cl sa (20 + c) / 32) / 3 * 3 = nI (cl sa (20 + c) / 32 % 3) from i_mod (n := 3) (by omega) (by decide)]
    exact i_add 1 _
theorem l384 (hsa : sa 11 ≤ 260) {b : Nat → Int32} {c6 : Int32} : ∀ n c (u : KS) (bv : Nat → Int32), c + n = 4 → ST bv L K O F u → (∀ j, j < 15 ∨ 19 ≤ j → bv j = b j) → (∀ i, i < c → bv (15 + i) = mo sa i) → (∀ i, c ≤ i → i < 4 → bv (15 + i) = -1) → ∃ u' b', lpF (mL_lawB_s384 sa c6) (nI c, u) = some u' ∧ ST b' L K O F u' ∧ (∀ j, j < 15 ∨ 19 ≤ j → b' j = b j) ∧ ∀ i, i < 4 → b' (15 + i) = mo sa i := by
  intro n
  induction n with
  | zero =>
    intro c u bv h0 h h1 h2 h3
    have h0 : c = 4 := h0
    subst h0
    refine ⟨u, bv, lp_stop ?_, h, h1, h2⟩
    unfold mL_lawB_s384
    dsimp only
    rw [if_pos (by decide)]
  | succ n ih =>
    intro c u bv h0 h h1 h2 h3
    obtain ⟨x, hx, e1, e2, e3, e4, e5⟩ := cell20 hsa (show c < 4 by omega)
    by_cases c0 : x % 4 = 0
    · have st : mL_lawB_s384 sa c6 (nI c, u) = some (.inr (nI (c + 1), u)) := by
        unfold mL_lawB_s384 mL_lawB_s384_j438
        dsimp only
        rw [if_neg (show ¬ (4 : Int32) ≤ nI c from nI_ge (b := 4) (by omega) (by decide)), e1, bs, e2, if_pos (e3.mpr c0), i_s]
      rw [lp_go st]
      refine ih (c + 1) u bv (by omega) h h1 (fun i hi => ?_) (fun i g1 g2 => h3 i (by omega) g2)
      by_cases hic : i = c
      · rw [hic, h3 c (Nat.le_refl _) (by omega)]
        unfold mo
        rw [← hx, if_pos c0]
      · exact h2 i (by omega)
    · obtain ⟨u1, p1, p2⟩ := s_fault h.1 (c := c) (k := x / 4 % 7) (d := 1 + x / 32 % 3) (by omega) (by omega) (by omega) (by omega)
      rw [Nat.add_sub_cancel_left] at p2
      have st : mL_lawB_s384 sa c6 (nI c, u) = some (.inr (nI (c + 1), sR u1 20 (gR u 20))) := by
        unfold mL_lawB_s384 mL_lawB_s384_j438
        dsimp only
        rw [if_neg (show ¬ (4 : Int32) ≤ nI c from nI_ge (b := 4) (by omega) (by decide)), e1, bs, e2, if_neg (fun z => c0 (e3.mp z)), e4, e5, p1, bs, gd_t rfl, i_s]
      rw [lp_go st]
      refine ih (c + 1) _ _ (by omega) ⟨by rw [h.2]; exact p2.row F, by rw [h.2]; rfl⟩ (fun j hj => (u_no _ _ _ (by omega)).trans (h1 j hj)) (fun i hi => ?_) (fun i g1 g2 => (u_no _ _ _ (by omega)).trans (h3 i (by omega) g2))
      by_cases hic : i = c
      · rw [hic, u_is]
        unfold mo fa
        rw [← hx, if_neg c0]
      · rw [u_no _ _ _ (by omega)]
        exact h2 i (by omega)
/-- what a cylinder gives, as a number -/
def yn (sa : Nat → Nat) (D : List (Nat × Nat)) (f m c i : Nat) : Nat := if cl sa (20 + i) % 4 = 0 then 0 else gv D f (fa sa i) m c
theorem yn_lt {f m c : Nat} (hD : WD D) (hf : f ≤ 100) (i : Nat) : yn sa D f m c i < 100 := by
  unfold yn
  split
  · decide
  · exact gv_le c hD hf (fa_lt sa i)
theorem cyv_n {b : Nat → Int32} (hb : ∀ i, i < 4 → b (15 + i) = mo sa i) {f m c i : Nat} (hi : i < 4) : cyv D f b m c i = nI (yn sa D f m c i) := by
  have hl := fa_lt sa i
  unfold cyv yn
  rw [hb i hi]
  unfold mo
  by_cases c0 : cl sa (20 + i) % 4 = 0
  · rw [if_pos c0, if_pos rfl, if_pos c0]
    rfl
  · rw [if_neg c0, if_neg (nI_nm1 (by omega)), if_neg c0]
    congr 2
    show (nI (fa sa i)).toInt.toNat = _
    rw [z_nN (by omega)]
    rfl
theorem smk_all {b : Nat → Int32} (hb : ∀ i, i < 4 → b (15 + i) = mo sa i) (f m c : Nat) : smk D f b m c (-1) = nI (yn sa D f m c 0 + yn sa D f m c 1 + yn sa D f m c 2 + yn sa D f m c 3) := by
  have e : smk D f b m c (-1) = 0 + cyv D f b m c 0 + cyv D f b m c 1 + cyv D f b m c 2 + cyv D f b m c 3 := rfl
  rw [e, cyv_n hb (by decide), cyv_n hb (by decide), cyv_n hb (by decide), cyv_n hb (by decide), show (0 : Int32) = nI 0 from rfl, i_add, i_add, i_add, i_add, Nat.zero_add]
theorem smk_cut {b : Nat → Int32} (hb : ∀ i, i < 4 → b (15 + i) = mo sa i) {f m c i : Nat} (hD : WD D) (hf : f ≤ 100) (hi : i < 4) : smk D f b m c (nI i) = nI (yn sa D f m c 0 + yn sa D f m c 1 + yn sa D f m c 2 + yn sa D f m c 3) - nI (yn sa D f m c i) := by
  have h0 := yn_lt (sa := sa) (m := m) (c := c) hD hf 0
  have h1 := yn_lt (sa := sa) (m := m) (c := c) hD hf 1
  have h2 := yn_lt (sa := sa) (m := m) (c := c) hD hf 2
  have h3 := yn_lt (sa := sa) (m := m) (c := c) hD hf 3
  have c0 := cyv_n (D := D) hb (f := f) (m := m) (c := c) (i := 0) (by decide)
  have c1 := cyv_n (D := D) hb (f := f) (m := m) (c := c) (i := 1) (by decide)
  have c2 := cyv_n (D := D) hb (f := f) (m := m) (c := c) (i := 2) (by decide)
  have c3 := cyv_n (D := D) hb (f := f) (m := m) (c := c) (i := 3) (by decide)
  rcases (show i = 0 ∨ i = 1 ∨ i = 2 ∨ i = 3 by omega) with q | q | q | q <;> subst q
  · have e : smk D f b m c (nI 0) = 0 + cyv D f b m c 1 + cyv D f b m c 2 + cyv D f b m c 3 := rfl
    rw [e, c1, c2, c3, show (0 : Int32) = nI 0 from rfl, i_add, i_add, i_add, i_sub (by omega) (by omega)]
    congr 1
    omega
  · have e : smk D f b m c (nI 1) = 0 + cyv D f b m c 0 + cyv D f b m c 2 + cyv D f b m c 3 := rfl
    rw [e, c0, c2, c3, show (0 : Int32) = nI 0 from rfl, i_add, i_add, i_add, i_sub (by omega) (by omega)]
    congr 1
    omega
  · have e : smk D f b m c (nI 2) = 0 + cyv D f b m c 0 + cyv D f b m c 1 + cyv D f b m c 3 := rfl
    rw [e, c0, c1, c3, show (0 : Int32) = nI 0 from rfl, i_add, i_add, i_add, i_sub (by omega) (by omega)]
    congr 1
    omega
  · have e : smk D f b m c (nI 3) = 0 + cyv D f b m c 0 + cyv D f b m c 1 + cyv D f b m c 2 := rfl
    rw [e, c0, c1, c2, show (0 : Int32) = nI 0 from rfl, i_add, i_add, i_add, i_sub (by omega) (by omega)]
    congr 1
    omega
section LSM
variable {b : Nat → Int32}
theorem l493 (hsa : sa 11 ≤ 260) (hd : day (tx b) L = .inr D) (hb : ∀ i, i < 4 → b (15 + i) = mo sa i) {c6 c9 c10 : Int32} {m cc : Nat} (hm : m < D.length) (hcc : cc < 4) : ∀ n c (u : KS), c + n = 4 → ST b L K O F u → ∃ u', lpF (mL_lawB_s493 sa c6 c9 c10 (nI m) (nI cc) (nI (sm (yn sa D (nat (b 4)) m cc) 4))) (nI (sm (yn sa D (nat (b 4)) m cc) c), nI c, u) = some (nI (sm (yn sa D (nat (b 4)) m cc) 4), u') ∧ ST b L K O F u' := by
  have hD := day_WD hd
  intro n
  induction n with
  | zero =>
    intro c u h0 h
    have h0 : c = 4 := h0
    subst h0
    refine ⟨u, lp_stop ?_, h⟩
    unfold mL_lawB_s493
    dsimp only
    rw [if_pos (by decide)]
  | succ n ih =>
    intro c u h0 h
    have hc : c < 4 := by omega
    have hf := rc_f h.1
    obtain ⟨x, hx, e1, e2, e3, e4, e5⟩ := cell20 hsa hc
    have zc : (nI c).toInt = (c : Int) := z_nN (by omega)
    have hS4 : yn sa D (nat (b 4)) m cc 0 + yn sa D (nat (b 4)) m cc 1 + yn sa D (nat (b 4)) m cc 2 + yn sa D (nat (b 4)) m cc 3 = sm (yn sa D (nat (b 4)) m cc) 4 := by
      show _ = 0 + yn sa D (nat (b 4)) m cc 0 + yn sa D (nat (b 4)) m cc 1 + yn sa D (nat (b 4)) m cc 2 + yn sa D (nat (b 4)) m cc 3
      omega
    have hcut := smk_cut (D := D) hb (f := nat (b 4)) (m := m) (c := cc) (i := c) hD hf hc
    rw [hS4] at hcut
    have jn : ∀ v : KS, ST b L K O F v → ∃ v', mL_lawB_s493_j544 sa v c6 c9 c10 (nI m) (nI cc) (nI (sm (yn sa D (nat (b 4)) m cc) 4)) (nI (sm (yn sa D (nat (b 4)) m cc) c)) (nI c) (nI (yn sa D (nat (b 4)) m cc c)) = some (.inr (nI (sm (yn sa D (nat (b 4)) m cc) (c + 1)), nI (c + 1), v')) ∧ ST b L K O F v' := by
      intro v hv
      obtain ⟨v1, r1, r2⟩ := s_smoke hv.1 hd hm hcc (cut := nI c) (by omega)
      refine ⟨_, ?_, hv.nx r2⟩
      unfold mL_lawB_s493_j544
      rw [r1, bs]
      dsimp only
      rw [hcut, gd_t rfl, i_add, i_s]
      rfl
    by_cases c0 : x % 4 = 0
    · have hy : yn sa D (nat (b 4)) m cc c = 0 := by unfold yn; rw [← hx, if_pos c0]
      obtain ⟨v', j1, j2⟩ := jn u h
      rw [hy] at j1
      have st : mL_lawB_s493 sa c6 c9 c10 (nI m) (nI cc) (nI (sm (yn sa D (nat (b 4)) m cc) 4)) (nI (sm (yn sa D (nat (b 4)) m cc) c), nI c, u) = some (.inr (nI (sm (yn sa D (nat (b 4)) m cc) (c + 1)), nI (c + 1), v')) := by
        unfold mL_lawB_s493
        dsimp only
        rw [if_neg (show ¬ (4 : Int32) ≤ nI c from nI_ge (b := 4) (by omega) (by decide)), e1, bs, e2, if_pos (e3.mpr c0)]
        exact j1
      rw [lp_go st]
      exact ih (c + 1) v' (by omega) j2
    · obtain ⟨u1, p1, p2⟩ := s_gives h.1 hd (k := x / 4 % 7) (d := 1 + x / 32 % 3) (m := m) (c := cc) (by omega) (by omega) (by omega) hm hcc
      have hy : yn sa D (nat (b 4)) m cc c = gv D (nat (b 4)) (3 * (x / 4 % 7) + (1 + x / 32 % 3 - 1)) m cc := by
        unfold yn fa
        rw [← hx, if_neg c0, Nat.add_sub_cancel_left]
      rw [← hy] at p1
      obtain ⟨v', j1, j2⟩ := jn _ (h.nx p2)
      have st : mL_lawB_s493 sa c6 c9 c10 (nI m) (nI cc) (nI (sm (yn sa D (nat (b 4)) m cc) 4)) (nI (sm (yn sa D (nat (b 4)) m cc) c), nI c, u) = some (.inr (nI (sm (yn sa D (nat (b 4)) m cc) (c + 1)), nI (c + 1), v')) := by
        unfold mL_lawB_s493
        dsimp only
        rw [if_neg (show ¬ (4 : Int32) ≤ nI c from nI_ge (b := 4) (by omega) (by decide)), e1, bs, e2, if_neg (fun z => c0 (e3.mp z)), e4, e5, p1, bs]
        exact j1
      rw [lp_go st]
      exact ih (c + 1) v' (by omega) j2
theorem l470 (hsa : sa 11 ≤ 260) (hd : day (tx b) L = .inr D) (hb : ∀ i, i < 4 → b (15 + i) = mo sa i) {c6 c9 c10 : Int32} {m : Nat} (hm : m < D.length) : ∀ n c (u : KS), c + n = 4 → ST b L K O F u → ∃ u', lpF (mL_lawB_s470 sa c6 c9 c10 (nI m)) (nI c, u) = some u' ∧ ST b L K O F u' := by
  intro n
  induction n with
  | zero =>
    intro c u h0 h
    have h0 : c = 4 := h0
    subst h0
    refine ⟨u, lp_stop ?_, h⟩
    unfold mL_lawB_s470
    dsimp only
    rw [if_pos (by decide)]
  | succ n ih =>
    intro c u h0 h
    have hc : c < 4 := by omega
    obtain ⟨u1, p1, p2⟩ := s_smoke h.1 hd hm hc (cut := -1) ⟨by decide, by decide⟩
    have h1 := h.nx p2
    have hall := smk_all (D := D) hb (nat (b 4)) m c
    have hS4 : yn sa D (nat (b 4)) m c 0 + yn sa D (nat (b 4)) m c 1 + yn sa D (nat (b 4)) m c 2 + yn sa D (nat (b 4)) m c 3 = sm (yn sa D (nat (b 4)) m c) 4 := by
      show _ = 0 + yn sa D (nat (b 4)) m c 0 + yn sa D (nat (b 4)) m c 1 + yn sa D (nat (b 4)) m c 2 + yn sa D (nat (b 4)) m c 3
      omega
    rw [hS4] at hall
    obtain ⟨u2, q1, q2⟩ := l493 (c6 := c6) (c9 := c9) (c10 := c10) hsa hd hb hm hc 4 0 _ rfl h1
    have q1' : lpF (mL_lawB_s493 sa c6 c9 c10 (nI m) (nI c) (nI (sm (yn sa D (nat (b 4)) m c) 4))) (0, 0, sR u1 20 (gR u 20)) = some (nI (sm (yn sa D (nat (b 4)) m c) 4), u2) := q1
    have st : mL_lawB_s470 sa c6 c9 c10 (nI m) (nI c, u) = some (.inr (nI (c + 1), u2)) := by
      unfold mL_lawB_s470
      dsimp only
      rw [if_neg (show ¬ (4 : Int32) ≤ nI c from nI_ge (b := 4) (by omega) (by decide)), p1, bs]
      dsimp only
      rw [hall, q1', bs, gd_t rfl, i_s]
    rw [lp_go st]
    exact ih (c + 1) u2 (by omega) q2
theorem l460 (hsa : sa 11 ≤ 260) (hd : day (tx b) L = .inr D) (hDl : D.length ≤ 60) (hb : ∀ i, i < 4 → b (15 + i) = mo sa i) : ∀ n m (u : KS), m + n = D.length → ST b L K O F u → ∃ u', lpF (mL_lawB_s460 sa (nI D.length)) (fd (fun k x => x + smk D (nat (b 4)) b k 0 (-1)) m 0, fd (fun k x => x + smk D (nat (b 4)) b k 1 (-1)) m 0, nI m, u) = some (fd (fun k x => x + smk D (nat (b 4)) b k 0 (-1)) D.length 0, fd (fun k x => x + smk D (nat (b 4)) b k 1 (-1)) D.length 0, u') ∧ ST b L K O F u' := by
  intro n
  induction n with
  | zero =>
    intro m u h0 h
    have h0 : m = D.length := h0
    subst h0
    refine ⟨u, lp_stop ?_, h⟩
    unfold mL_lawB_s460
    dsimp only
    rw [if_pos (Int32.le_refl _)]
  | succ n ih =>
    intro m u h0 h
    have hm : m < D.length := by omega
    obtain ⟨u1, p1, p2⟩ := l470 (c6 := nI D.length) (c9 := fd (fun k x => x + smk D (nat (b 4)) b k 0 (-1)) m 0) (c10 := fd (fun k x => x + smk D (nat (b 4)) b k 1 (-1)) m 0) hsa hd hb hm 4 0 u rfl h
    have p1' : lpF (mL_lawB_s470 sa (nI D.length) (fd (fun k x => x + smk D (nat (b 4)) b k 0 (-1)) m 0) (fd (fun k x => x + smk D (nat (b 4)) b k 1 (-1)) m 0) (nI m)) (0, u) = some u1 := p1
    obtain ⟨u2, q1, q2⟩ := s_smoke p2.1 hd hm (show 0 < 4 by decide) (cut := -1) ⟨by decide, by decide⟩
    have h2 := p2.nx q2
    obtain ⟨u3, r1, r2⟩ := s_smoke h2.1 hd hm (show 1 < 4 by decide) (cut := -1) ⟨by decide, by decide⟩
    have h3 := p2.nx r2
    have q1' : mX5_smoke u1 (nI m) 0 (-1) = some (smk D (nat (b 4)) b m 0 (-1), u2) := q1
    have r1' : mX5_smoke (sR u2 20 (gR u1 20)) (nI m) 1 (-1) = some (smk D (nat (b 4)) b m 1 (-1), u3) := r1
    have st : mL_lawB_s460 sa (nI D.length) (fd (fun k x => x + smk D (nat (b 4)) b k 0 (-1)) m 0, fd (fun k x => x + smk D (nat (b 4)) b k 1 (-1)) m 0, nI m, u) = some (.inr (fd (fun k x => x + smk D (nat (b 4)) b k 0 (-1)) (m + 1) 0, fd (fun k x => x + smk D (nat (b 4)) b k 1 (-1)) (m + 1) 0, nI (m + 1), sR u3 20 (gR u1 20))) := by
      unfold mL_lawB_s460
      dsimp only
      rw [if_neg (show ¬ nI D.length ≤ nI m from nI_ge hm (by omega)), p1', bs, q1', bs]
      dsimp only
      rw [r1', bs]
      dsimp only
      rw [i_s]
      rfl
    rw [lp_go st]
    exact ih (m + 1) _ (by omega) h3
end LSM
end SMO
