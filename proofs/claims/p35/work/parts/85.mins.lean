/-! minute by minute: how warm, what faults give, what stems let go -/
theorem gS_mo : ∀ k, k < 7 → ∀ w, w < 101 → gS k 1 w ≤ gS k 2 w ∧ gS k 2 w ≤ gS k 3 w := by decide +kernel
theorem gH_mo : ∀ k, k < 7 → ∀ l, l < 10 → ∀ w, w < 101 → gH k 1 l w ≤ gH k 2 l w ∧ gH k 2 l w ≤ gH k 3 l w := by decide +kernel
theorem gK_mo : ∀ k, k < 7 → ∀ l, l < 10 → gK k 1 l ≤ gK k 2 l ∧ gK k 2 l ≤ gK k 3 l := by decide +kernel
theorem wd_l {D : List (Nat × Nat)} (hD : WD D) (m : Nat) : dL D m < 10 := by
  have := hD.2 m
  by_cases c : dH D m = 2
  · have := this.2.1 c; omega
  · have := this.2.2 c; omega
theorem gv_mo {D : List (Nat × Nat)} {f k m c : Nat} (hD : WD D) (hf : f ≤ 100) (hk : k < 7) (hk1 : k ≠ 1) : gv D f (3 * k + 0) m c ≤ gv D f (3 * k + 1) m c ∧ gv D f (3 * k + 1) m c ≤ gv D f (3 * k + 2) m c := by
  have hw := wm_le D hf m
  have hl := wd_l hD m
  have e0 : (3 * k + 0) / 3 = k ∧ (3 * k + 0) % 3 + 1 = 1 := by omega
  have e1 : (3 * k + 1) / 3 = k ∧ (3 * k + 1) % 3 + 1 = 2 := by omega
  have e2 : (3 * k + 2) / 3 = k ∧ (3 * k + 2) % 3 + 1 = 3 := by omega
  unfold gv
  rw [e0.1, e0.2, e1.1, e1.2, e2.1, e2.2]
  by_cases h0 : dH D m = 0
  · simp only [if_pos h0]; exact ⟨Nat.le_refl _, Nat.le_refl _⟩
  · simp only [if_neg h0]
    by_cases c0 : c = 0
    · simp only [if_pos c0]
      unfold gB
      by_cases k0 : k = 0
      · simp only [if_pos k0]; omega
      · simp only [if_neg k0, if_neg hk1]
        by_cases k6 : k = 6
        · simp only [if_pos k6]; omega
        · simp only [if_neg k6]; exact ⟨Nat.le_refl _, Nat.le_refl _⟩
    · simp only [if_neg c0]
      by_cases c1 : c = 1
      · simp only [if_pos c1]; exact gS_mo k hk _ (by omega)
      · simp only [if_neg c1]
        by_cases c2 : c = 2
        · simp only [if_pos c2]; exact gH_mo k hk _ hl _ (by omega)
        · simp only [if_neg c2]; exact gK_mo k hk _ hl
theorem gv_off {D : List (Nat × Nat)} {f a m c : Nat} (h : dH D m = 0) : gv D f a m c = 0 := by
  unfold gv
  rw [if_pos h]
theorem cd_0 {D : List (Nat × Nat)} {m : Nat} : cd D m = 0 ↔ dH D m = 0 := by
  unfold cd
  by_cases c : dH D m = 2
  · rw [if_pos c]; omega
  · rw [if_neg c]
    by_cases d : dH D m = 3
    · rw [if_pos d]; omega
    · rw [if_neg d]
theorem cd_2 {D : List (Nat × Nat)} {m : Nat} : cd D m = 2 ↔ dH D m = 3 := by
  unfold cd
  by_cases c : dH D m = 2
  · rw [if_pos c]; omega
  · rw [if_neg c]
    by_cases d : dH D m = 3
    · rw [if_pos d]; omega
    · rw [if_neg d]; omega
theorem cd_le {D : List (Nat × Nat)} (hD : WD D) (m : Nat) : cd D m < 20 := by
  have := wd_l hD m
  have := (hD.2 m).1
  unfold cd
  repeat' split
  all_goals omega
section MINS
variable {sa : Nat → Nat} {b : Nat → Int32} {L K : Nat} {O : Nat → Option Nat} {D : List (Nat × Nat)} {F : Nat → Int32}
abbrev ST (b : Nat → Int32) (L K : Nat) (O : Nat → Option Nat) (F : Nat → Int32) (u : KS) : Prop := RC u b L K O ∧ gR u 20 = F
theorem ST.nx {u u1 : KS} (h : ST b L K O F u) (h1 : RC u1 b L K O) : ST b L K O F (sR u1 20 (gR u 20)) := by
  rw [h.2]
  exact ⟨h1.row F, rfl⟩
theorem l188 (hd : day (tx b) L = .inr D) (hW : RW F D) (hDl : D.length ≤ 60) {c6 c7 c8 : Int32} {m k : Nat} (hm : m < D.length) (hk : k < 7) : ∀ n c (u : KS), c + n = 4 → ST b L K O F u → ∃ u', lpF (mL_lawB_s188 sa c6 c7 c8 (nI m) (nI k)) (nI c, u) = some u' ∧ ST b L K O F u' := by
  have hD := day_WD hd
  have hFm := hW.2 m hm
  have hcl := cd_le hD m
  intro n
  induction n with
  | zero =>
    intro c u h0 h
    have h0 : c = 4 := h0
    subst h0
    refine ⟨u, lp_stop ?_, h⟩
    unfold mL_lawB_s188
    dsimp only
    rw [if_pos (by decide)]
  | succ n ih =>
    intro c u h0 h
    have hf := rc_f h.1
    obtain ⟨u1, p1, p2⟩ := s_gives h.1 hd (k := k) (d := 1) hk (by decide) (by decide) hm (show c < 4 by omega)
    have h1 := h.nx p2
    obtain ⟨u2, q1, q2⟩ := s_gives h1.1 hd (k := k) (d := 2) hk (by decide) (by decide) hm (show c < 4 by omega)
    have h2 := h.nx q2
    obtain ⟨u3, r1, r2⟩ := s_gives h2.1 hd (k := k) (d := 3) hk (by decide) (by decide) hm (show c < 4 by omega)
    have h3 := h.nx r2
    have p1' : mX5_gives u (nI k) 1 (nI m) (nI c) = some (nI (gv D (nat (b 4)) (3 * k + 0) m c), u1) := p1
    have q1' : mX5_gives (sR u1 20 (gR u 20)) (nI k) 2 (nI m) (nI c) = some (nI (gv D (nat (b 4)) (3 * k + 1) m c), u2) := q1
    have r1' : mX5_gives (sR u2 20 (gR u 20)) (nI k) 3 (nI m) (nI c) = some (nI (gv D (nat (b 4)) (3 * k + 2) m c), u3) := r1
    have g1 := gv_le c (m := m) hD hf (show 3 * k + 0 < 21 by omega)
    have g2 := gv_le c (m := m) hD hf (show 3 * k + 1 < 21 by omega)
    have g3 := gv_le c (m := m) hD hf (show 3 * k + 2 < 21 by omega)
    have hmo := gv_mo (m := m) (c := c) hD hf hk
    have hoff : dH D m = 0 → gv D (nat (b 4)) (3 * k + 0) m c = 0 ∧ gv D (nat (b 4)) (3 * k + 1) m c = 0 ∧ gv D (nat (b 4)) (3 * k + 2) m c = 0 := fun z => ⟨gv_off z, gv_off z, gv_off z⟩
    generalize gv D (nat (b 4)) (3 * k + 0) m c = y1 at *
    generalize gv D (nat (b 4)) (3 * k + 1) m c = y2 at *
    generalize gv D (nat (b 4)) (3 * k + 2) m c = y3 at *
    have hj : mL_lawB_s188_j272 sa (sR u3 20 (gR u 20)) c6 c7 c8 (nI m) (nI k) (nI c) (nI y1) (nI y2) (nI y3) = some (.inr (nI (c + 1), sR u3 20 (gR u 20))) := by
      unfold mL_lawB_s188_j272 mL_lawB_s188_j292
      rw [i_s]
      by_cases c1 : k = 1
      · rw [if_pos (by rw [c1]; rfl)]
      · have hm2 := hmo c1
        rw [if_neg (show ¬ nI k = (1 : Int32) from fun z => c1 ((nI_eq (a := k) (b := 1) (by omega) (by decide)).mp z)), gd_t (nI_nlt hm2.1 (by omega)), gd_t (nI_nlt hm2.2 (by omega))]
    have e0 : gR u 20 ((nI m).toNatClampNeg) = nI (cd D m) := by
      rw [i_cl (by omega), h.2]
      exact hFm
    have st : mL_lawB_s188 sa c6 c7 c8 (nI m) (nI k) (nI c, u) = some (.inr (nI (c + 1), sR u3 20 (gR u 20))) := by
      unfold mL_lawB_s188
      dsimp only
      rw [if_neg (show ¬ (4 : Int32) ≤ nI c from nI_ge (b := 4) (by omega) (by decide)), p1', bs]
      dsimp only
      rw [q1', bs]
      dsimp only
      rw [r1', bs]
      dsimp only
      rw [gd_t (nI_pos (by omega)), gd_t (nI_pos (by omega)), gd_t (nI_pos (by omega)), gd_t (i_k (by omega) (by decide)), e0]
      by_cases cz : 0 < nI (cd D m)
      · rw [if_pos cz, hj]
      · have hz : cd D m = 0 := by
          refine Classical.byContradiction fun q => cz ?_
          rw [z_lt, z_nN (by omega)]
          show (0 : Int) < _
          omega
        obtain ⟨z1, z2, z3⟩ := hoff (cd_0.mp hz)
        rw [if_neg cz, hj, i_add, i_add, z1, z2, z3, gd_t (show nI (0 + 0 + 0) = 0 from rfl)]
    rw [lp_go st]
    exact ih (c + 1) _ (by omega) h3
theorem l178 (hd : day (tx b) L = .inr D) (hW : RW F D) (hDl : D.length ≤ 60) {c6 c7 c8 : Int32} {m : Nat} (hm : m < D.length) : ∀ n k (u : KS), k + n = 7 → ST b L K O F u → ∃ u', lpF (mL_lawB_s178 sa c6 c7 c8 (nI m)) (nI k, u) = some u' ∧ ST b L K O F u' := by
  intro n
  induction n with
  | zero =>
    intro k u h0 h
    have h0 : k = 7 := h0
    subst h0
    refine ⟨u, lp_stop ?_, h⟩
    unfold mL_lawB_s178
    dsimp only
    rw [if_pos (by decide)]
  | succ n ih =>
    intro k u h0 h
    obtain ⟨u1, p1, p2⟩ := l188 (sa := sa) (c6 := c6) (c7 := c7) (c8 := c8) hd hW hDl hm (show k < 7 by omega) 4 0 u rfl h
    have p1' : lpF (mL_lawB_s188 sa c6 c7 c8 (nI m) (nI k)) (0, u) = some u1 := p1
    have st : mL_lawB_s178 sa c6 c7 c8 (nI m) (nI k, u) = some (.inr (nI (k + 1), u1)) := by
      unfold mL_lawB_s178
      dsimp only
      rw [if_neg (show ¬ (7 : Int32) ≤ nI k from nI_ge (b := 7) (by omega) (by decide)), p1', bs, i_s]
    rw [lp_go st]
    exact ih (k + 1) _ (by omega) p2
theorem l92 (hd : day (tx b) L = .inr D) (hW : RW F D) (hDl : D.length ≤ 60) : ∀ n m (u : KS) (took lt : Nat), m + n = D.length → ST b L K O F u → lt + oh D 1 m ≤ took → took ≤ 3 * m → ∃ u', lpF (mL_lawB_s92 sa (nI D.length)) (nI took, nI lt, nI m, u) = some u' ∧ ST b L K O F u' := by
  have hD := day_WD hd
  intro n
  induction n with
  | zero =>
    intro m u took lt h0 h _ _
    have h0 : m = D.length := h0
    subst h0
    refine ⟨u, lp_stop ?_, h⟩
    unfold mL_lawB_s92
    dsimp only
    rw [if_pos (Int32.le_refl _)]
  | succ n ih =>
    intro m u took lt h0 h hl ht
    have hm : m < D.length := by omega
    have hf := rc_f h.1
    have hcl := cd_le hD m
    obtain ⟨u1, p1, p2⟩ := s_warm h.1 hd (show m ≤ D.length by omega)
    have h1 := h.nx p2
    obtain ⟨u2, q1, q2⟩ := s_warm h1.1 hd (show m + 1 ≤ D.length by omega)
    have h2 := h.nx q2
    have w1 := wm_le D hf m
    have w2 := wm_le D hf (m + 1)
    have hwm : wm D (nat (b 4)) (m + 1) = if dH D m = 0 then wm D (nat (b 4)) m - 1 else min 100 (wm D (nat (b 4)) m + 2 + dL D m / 3) := rfl
    have e0 : ∀ v : KS, gR v 20 = F → gR v 20 ((nI m).toNatClampNeg) = nI (cd D m) := fun v hv => by
      rw [i_cl (by omega), hv]
      exact hW.2 m hm
    have q0 : nI (cd D m) = 0 ↔ cd D m = 0 := nI_eq (b := 0) (by omega) (by decide)
    have q2' : nI (cd D m) = 2 ↔ cd D m = 2 := nI_eq (b := 2) (by omega) (by decide)
    -- behind the warmth
    have hj : ∃ u' took' lt', mL_lawB_s92_j168 sa (sR u2 20 (gR u 20)) (nI D.length) (nI took) (nI lt) (nI m) = some (.inr (nI took', nI lt', nI (m + 1), u')) ∧ ST b L K O F u' ∧ lt' + oh D 1 (m + 1) ≤ took' ∧ took' ≤ 3 * (m + 1) := by
      obtain ⟨u3, r1, r2⟩ := l178 (sa := sa) (c6 := nI D.length) (c7 := nI took) (c8 := nI lt) hd hW hDl hm 7 0 (sR u2 20 (gR u 20)) rfl h2
      have r1' : lpF (mL_lawB_s178 sa (nI D.length) (nI took) (nI lt) (nI m)) (0, sR u2 20 (gR u 20)) = some u3 := r1
      obtain ⟨u4, t1, t2⟩ := s_gives r2.1 hd (k := 1) (d := 1) (by decide) (by decide) (by decide) hm (show 0 < 4 by decide)
      have h4 := r2.nx t2
      have t1' : mX5_gives u3 1 1 (nI m) 0 = some (nI (gv D (nat (b 4)) 3 m 0), u4) := t1
      have hoh : oh D 1 (m + 1) = min (oh D 1 m + omo D 1 m) 30 - min (min (oh D 1 m + omo D 1 m) 30) (oms D 1 m) := rfl
      have hg : gv D (nat (b 4)) 3 m 0 = if dH D m = 0 then 0 else min (min (oh D 1 m + omo D 1 m) 30) (oms D 1 m) := rfl
      have hoh30 := oh_le D 1 m
      have j339 : ∀ t : Nat, t ≤ 3 → t = omo D 1 m → mL_lawB_s92_j339 sa u3 (nI D.length) (nI lt) (nI m) (nI t) (nI took) = some (.inr (nI (took + t), nI (lt + gv D (nat (b 4)) 3 m 0), nI (m + 1), sR u4 20 (gR u3 20))) ∧ lt + gv D (nat (b 4)) 3 m 0 + oh D 1 (m + 1) ≤ took + t := by
        intro t ht3 ht
        have hle : lt + gv D (nat (b 4)) 3 m 0 + oh D 1 (m + 1) ≤ took + t := by
          rw [hg, hoh, ht]
          split <;> omega
        refine ⟨?_, hle⟩
        unfold mL_lawB_s92_j339
        rw [t1', bs]
        dsimp only
        rw [i_add, i_add, i_s, gd_t (nI_nlt (by omega) (by omega))]
      have hd0 := (hD.2 m).1
      unfold mL_lawB_s92_j168
      rw [r1', bs, gd_t (i_k (by omega) (by decide)), gd_t (i_k (by omega) (by decide)), e0 u3 r2.2]
      by_cases c0 : cd D m = 0
      · have a0 := cd_0.mp c0
        rw [if_pos (q0.mpr c0)]
        obtain ⟨x1, x2⟩ := j339 1 (by decide) (by unfold omo; rw [if_pos a0])
        exact ⟨_, _, _, x1, h4, x2, by omega⟩
      · have a0 : dH D m ≠ 0 := fun z => c0 (cd_0.mpr z)
        rw [if_neg (fun z => c0 (q0.mp z))]
        by_cases c2 : cd D m = 2
        · have a2 := cd_2.mp c2
          rw [if_pos (q2'.mpr c2)]
          obtain ⟨x1, x2⟩ := j339 3 (by decide) (by unfold omo; rw [if_neg a0, if_pos a2])
          exact ⟨_, _, _, x1, h4, x2, by omega⟩
        · have a2 : dH D m ≠ 3 := fun z => c2 (cd_2.mpr z)
          rw [if_neg (fun z => c2 (q2'.mp z))]
          obtain ⟨x1, x2⟩ := j339 0 (by decide) (by unfold omo; rw [if_neg a0, if_neg a2])
          exact ⟨_, _, _, x1, h4, x2, by omega⟩
    obtain ⟨u', took', lt', x1, x2, x3, x4⟩ := hj
    have st : mL_lawB_s92 sa (nI D.length) (nI took, nI lt, nI m, u) = some (.inr (nI took', nI lt', nI (m + 1), u')) := by
      unfold mL_lawB_s92
      dsimp only
      rw [if_neg (show ¬ nI D.length ≤ nI m from nI_ge hm (by omega)), p1, bs]
      dsimp only
      rw [i_s, q1, bs]
      dsimp only
      rw [gd_t (nI_pos (by omega)), gd_t (show ¬ (100 : Int32) < nI _ from nI_nlt (a := 100) w1 (by decide)), gd_t (i_k (by omega) (by decide)), e0 u h.2, x1]
      by_cases c0 : cd D m = 0
      · have a0 := cd_0.mp c0
        rw [if_pos (q0.mpr c0)]
        rw [if_pos a0] at hwm
        by_cases c1 : nI (wm D (nat (b 4)) (m + 1)) = nI (wm D (nat (b 4)) m)
        · rw [if_pos c1]
        · rw [if_neg c1, gd_t]
          have hne : wm D (nat (b 4)) (m + 1) ≠ wm D (nat (b 4)) m := fun z => c1 (by rw [z])
          rw [show (1 : Int32) = nI 1 from rfl, i_sub (by omega) (by omega)]
          congr 1
      · have a0 : dH D m ≠ 0 := fun z => c0 (cd_0.mpr z)
        rw [if_neg (fun z => c0 (q0.mp z))]
        rw [if_neg a0] at hwm
        rw [gd_t (nI_nlt (by omega) (by omega))]
    rw [lp_go st]
    exact ih (m + 1) u' took' lt' (by omega) x2 x3 x4
end MINS
