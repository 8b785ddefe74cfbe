/-! more days are gone no less; more coin comes in by more days -/
theorem c_ge {a b : Nat} (ha : a < 9223372036854775808) (hb : b < 9223372036854775808) (h : b ≤ a) : ¬ lg_cmp (lN a) (lN b) < 0 := by
  rw [z_cmplt, zl_lt, zl_nN ha, zl_nN hb]
  omega
theorem c_le {a b : Nat} (ha : a < 9223372036854775808) (hb : b < 9223372036854775808) (h : a ≤ b) : ¬ 0 < lg_cmp (lN a) (lN b) := by
  rw [z_cmpgt, zl_lt, zl_nN ha, zl_nN hb]
  omega
theorem mul30 {a b : Nat} (ha : a ≤ 1073741824) (hb : b ≤ 1073741824) : a * b < 9223372036854775808 := Nat.lt_of_le_of_lt (Nat.mul_le_mul ha hb) (by decide)
section MORE
variable {sa : Nat → Nat} {b : Nat → Int32} {L K : Nat} {O : Nat → Option Nat} {F : Nat → Int32}
theorem v01 {u : KS} {x y : Nat} (h : FX u x y) (hx : x < 9223372036854775808) (hy : y < 9223372036854775808) : mL_value u 0 = some (lN x, u) ∧ mL_value u 1 = some (lN y, u) := ⟨s_value h (j := 0) (by decide) hx, s_value h (j := 1) (by decide) hy⟩
theorem l1111 {c6 : Int32} {l d : Nat} (hl : l < 10) (h1 : 1 ≤ d) (h3 : d ≤ 3) : ∀ k n (u : KS) (X Y : Nat), n + k = 7 → ST b L K O F u → ((n = 0 ∧ X = 0 ∧ Y = 1) ∨ (0 < n ∧ (X, Y) = gz l d (n - 1))) → ∃ u', lpF (mL_lawB_s1111 sa c6 (nI l) (nI d)) (lN X, lN Y, nI n, u) = some u' ∧ ST b L K O F u' := by
  intro k
  induction k with
  | zero =>
    intro n u X Y h0 h _
    have h0 : n = 7 := h0
    subst h0
    refine ⟨u, lp_stop ?_, h⟩
    unfold mL_lawB_s1111
    dsimp only
    rw [if_pos (by decide)]
  | succ k ih =>
    intro n u X Y h0 h hXY
    have hn : n < 7 := by omega
    obtain ⟨g1, g2, g3, g4, g5⟩ := gz_ok hl h1 h3 hn
    obtain ⟨u1, p1, p2, p3⟩ := s_gone h.1 h1 h3 hl hn
    have hu1 := h.nx p2
    have f1 : FX (sR u1 20 (gR u 20)) (gz l d n).1 (gz l d n).2 := p3.row _
    obtain ⟨w0, w1⟩ := v01 f1 (by omega) (by omega)
    have hb0 : X ≤ 1073741824 ∧ Y ≤ 1073741824 ∧ X * (gz l d n).2 ≤ (gz l d n).1 * Y := by
      rcases hXY with ⟨q0, q1, q2⟩ | ⟨q0, q1⟩
      · rw [q1, q2]; exact ⟨by decide, by decide, by rw [Nat.zero_mul]; exact Nat.zero_le _⟩
      · obtain ⟨a1, a2, a3, -⟩ := gz_ok hl h1 h3 (show n - 1 < 7 by omega)
        have e1 : X = (gz l d (n - 1)).1 := congrArg Prod.fst q1
        have e2 : Y = (gz l d (n - 1)).2 := congrArg Prod.snd q1
        rcases g4 with g4 | g4
        · omega
        · rw [e1, e2]; exact ⟨by omega, by omega, g4⟩
    have hss : sR (sR u1 20 (gR u 20)) 20 (gR u 20) = sR u1 20 (gR u 20) := sR_sR _ _ _ _
    have hnext : (lN (gz l d n).1, lN (gz l d n).2, nI (n + 1)) = (lN (gz l d n).1, lN (gz l d n).2, nI (n + 1)) := rfl
    have hst : ∃ u', mL_lawB_s1111 sa c6 (nI l) (nI d) (lN X, lN Y, nI n, u) = some (.inr (lN (gz l d n).1, lN (gz l d n).2, nI (n + 1), u')) ∧ ST b L K O F u' := by
      unfold mL_lawB_s1111 mL_lawB_s1111_j1239
      dsimp only
      rw [if_neg (show ¬ (7 : Int32) ≤ nI n from nI_ge (b := 7) hn (by decide)), p1, bs]
      dsimp only
      rw [gd_t rfl, w0, bs]
      dsimp only
      rw [hss, w1, bs]
      dsimp only
      rw [hss, lN_mul, lN_mul, gd_t (c_ge (mul30 (by omega) hb0.2.1) (mul30 hb0.1 (by omega)) hb0.2.2), w0, bs]
      dsimp only
      rw [hss, w1, bs]
      dsimp only
      rw [gd_t (c_le (by omega) (by omega) g1), hss, w0, bs]
      dsimp only
      rw [hss, w1, bs]
      dsimp only
      rw [hss, i_s]
      by_cases c : d = 3
      · rw [if_pos (show nI d = 3 by rw [c]; rfl)]
        exact ⟨_, rfl, hu1⟩
      · rw [if_neg (show ¬ nI d = (3 : Int32) from fun z => c ((nI_eq (a := d) (b := 3) (by omega) (by decide)).mp z))]
        have g5' := g5.resolve_left c
        obtain ⟨a1, a2, a3, -⟩ := gz_ok hl (show 1 ≤ d + 1 by omega) (show d + 1 ≤ 3 by omega) hn
        obtain ⟨u2, q1, q2, q3⟩ := s_gone hu1.1 (show 1 ≤ d + 1 by omega) (show d + 1 ≤ 3 by omega) hl hn
        have hu2 := h.nx q2
        have f2 : FX (sR u2 20 (gR u 20)) (gz l (d + 1) n).1 (gz l (d + 1) n).2 := q3.row _
        obtain ⟨y0, y1⟩ := v01 f2 (by omega) (by omega)
        have hs2 : sR (sR u2 20 (gR u 20)) 20 (gR u 20) = sR u2 20 (gR u 20) := sR_sR _ _ _ _
        rw [i_s, q1, bs]
        dsimp only
        rw [gd_t rfl, y0, bs]
        dsimp only
        rw [hs2, y1, bs]
        dsimp only
        rw [hs2, lN_mul, lN_mul, gd_t (c_ge (mul30 (by omega) (by omega)) (mul30 (by omega) (by omega)) g5')]
        exact ⟨_, rfl, hu2⟩
    obtain ⟨u', s1, s2⟩ := hst
    rw [lp_go s1]
    exact ih (n + 1) u' _ _ (by omega) s2 (Or.inr ⟨by omega, rfl⟩)
/-- what so many days come to, in lowest terms -/
def hX (ω : Nat) (loss : Int32) (n d : Nat) : Nat := hb ω loss n d / Nat.gcd (hb ω loss n d) (20 ^ n)
def hY (ω : Nat) (loss : Int32) (n d : Nat) : Nat := 20 ^ n / Nat.gcd (hb ω loss n d) (20 ^ n)
theorem hXY {ω : Nat} {loss : Int32} {n d : Nat} : ∃ g, 0 < g ∧ hX ω loss n d * g = hb ω loss n d ∧ hY ω loss n d * g = 20 ^ n := by
  refine ⟨Nat.gcd (hb ω loss n d) (20 ^ n), Nat.gcd_pos_of_pos_right _ (Nat.pow_pos (by decide)), ?_, ?_⟩
  · exact Nat.div_mul_cancel (Nat.gcd_dvd_left _ _)
  · exact Nat.div_mul_cancel (Nat.gcd_dvd_right _ _)
theorem h_up {ω : Nat} {loss : Int32} (hω : ω ≤ 500) (hl : 0 ≤ loss.toInt ∧ loss.toInt ≤ 99999) {n d : Nat} (hn : n ≤ 8) (h1 : 1 ≤ d) (h3 : d ≤ 3) : hb ω loss n d ≤ 9 * ω * n * 20 ^ n ∧ 20 * hb ω loss n d ≤ hb ω loss (n + 1) d := by
  obtain ⟨a1, a2, a3⟩ := hb_up (ω := ω) (by omega) hl n (by omega) d h1 h3
  obtain ⟨-, e1⟩ := hb_is (ω := ω) (by omega) hl (show n ≤ 10 by omega) h1 h3
  obtain ⟨-, e2⟩ := hb_is (ω := ω) (by omega) hl (show n + 1 ≤ 10 by omega) h1 h3
  rw [← e1] at a1 a2
  rw [← e2] at a2
  refine ⟨?_, by omega⟩
  have e : ((9 * ω * n * 20 ^ n : Nat) : Int) = 9 * (ω : Int) * (n : Int) * ((20 ^ n : Nat) : Int) := by
    rw [Int.natCast_mul, Int.natCast_mul, Int.natCast_mul]
    rfl
  exact Int.ofNat_le.mp (by rw [e]; exact a1)
theorem hY_le {ω : Nat} {loss : Int32} {n d : Nat} (hn : n < 5) : hY ω loss n d ≤ 160000 := by
  have h : hY ω loss n d ≤ 20 ^ n := Nat.div_le_self _ _
  have : 20 ^ n ≤ 20 ^ 4 := Nat.pow_le_pow_right (by decide) (by omega)
  have e : (20 : Nat) ^ 4 = 160000 := by decide
  omega
theorem hX_le {ω : Nat} {loss : Int32} (hω : ω ≤ 500) (hl : 0 ≤ loss.toInt ∧ loss.toInt ≤ 99999) {n d : Nat} (hn : n < 5) (h1 : 1 ≤ d) (h3 : d ≤ 3) : hX ω loss n d ≤ 9 * ω * n * hY ω loss n d ∧ hX ω loss n d ≤ 2880000000 := by
  obtain ⟨g, g0, g1, g2⟩ := hXY (ω := ω) (loss := loss) (n := n) (d := d)
  have hu := (h_up hω hl (show n ≤ 8 by omega) h1 h3).1
  have hle : hX ω loss n d ≤ 9 * ω * n * hY ω loss n d := by
    refine Nat.le_of_mul_le_mul_right ?_ g0
    rw [g1, Nat.mul_assoc _ _ g, g2]
    exact hu
  refine ⟨hle, Nat.le_trans hle ?_⟩
  have hy := hY_le (ω := ω) (loss := loss) (n := n) (d := d) hn
  have a1 : 9 * ω * n ≤ 9 * 500 * 4 := Nat.mul_le_mul (Nat.mul_le_mul_left _ hω) (by omega)
  exact Nat.le_trans (Nat.mul_le_mul a1 hy) (by decide)
theorem h_mo {ω : Nat} {loss : Int32} (hω : ω ≤ 500) (hl : 0 ≤ loss.toInt ∧ loss.toInt ≤ 99999) {n d : Nat} (hn : n ≤ 8) (h1 : 1 ≤ d) (h3 : d ≤ 3) : hX ω loss n d * hY ω loss (n + 1) d ≤ hX ω loss (n + 1) d * hY ω loss n d := by
  obtain ⟨g, g0, g1, g2⟩ := hXY (ω := ω) (loss := loss) (n := n) (d := d)
  obtain ⟨g', g0', g1', g2'⟩ := hXY (ω := ω) (loss := loss) (n := n + 1) (d := d)
  have hu := (h_up hω hl hn h1 h3).2
  refine Nat.le_of_mul_le_mul_right (c := g * g') ?_ (Nat.mul_pos g0 g0')
  rw [Nat.mul_mul_mul_comm, g1, g2', Nat.mul_comm g g', Nat.mul_mul_mul_comm, g1', g2, Nat.pow_succ, ← Nat.mul_assoc, Nat.mul_right_comm]
  refine Nat.mul_le_mul_right _ ?_
  rw [Nat.mul_comm]
  exact hu
theorem l1289 {c6 : Int32} {d ω : Nat} {loss : Int32} (h1 : 1 ≤ d) (h3 : d ≤ 3) (hω : ω ≤ 500) (hl : 0 ≤ loss.toInt ∧ loss.toInt ≤ 99999) : ∀ k n (u : KS) (X Y : Nat), n + k = 5 → ST b L K O F u → ((n = 0 ∧ X = 0 ∧ Y = 1) ∨ (0 < n ∧ X = hX ω loss (n - 1) d ∧ Y = hY ω loss (n - 1) d)) → ∃ u', lpF (mL_lawB_s1289 sa c6 (nI d) (nI ω) loss) (lN X, lN Y, nI n, u) = some u' ∧ ST b L K O F u' := by
  intro k
  induction k with
  | zero =>
    intro n u X Y h0 h _
    have h0 : n = 5 := h0
    subst h0
    refine ⟨u, lp_stop ?_, h⟩
    unfold mL_lawB_s1289
    dsimp only
    rw [if_pos (by decide)]
  | succ k ih =>
    intro n u X Y h0 h hq
    have hn : n < 5 := by omega
    obtain ⟨u1, p1, p2, p3⟩ := s_harvest h.1 (n := n) h1 h3 (by omega) (show ω ≤ 999 by omega) hl
    have hu1 := h.nx p2
    have f1 : FX (sR u1 20 (gR u 20)) (hX ω loss n d) (hY ω loss n d) := p3.row _
    have hy := hY_le (ω := ω) (loss := loss) (n := n) (d := d) hn
    obtain ⟨x1, x2⟩ := hX_le hω hl hn h1 h3
    obtain ⟨w0, w1⟩ := v01 f1 (by omega) (by omega)
    have hb0 : X ≤ 2880000000 ∧ Y ≤ 160000 ∧ X * hY ω loss n d ≤ hX ω loss n d * Y := by
      rcases hq with ⟨q0, q1, q2⟩ | ⟨q0, q1, q2⟩
      · rw [q1, q2]; exact ⟨by decide, by decide, by rw [Nat.zero_mul]; exact Nat.zero_le _⟩
      · obtain ⟨y1, y2⟩ := hX_le hω hl (show n - 1 < 5 by omega) h1 h3
        have y3 := hY_le (ω := ω) (loss := loss) (n := n - 1) (d := d) (by omega)
        have hm := h_mo hω hl (show n - 1 ≤ 8 by omega) h1 h3
        rw [show n - 1 + 1 = n by omega] at hm
        rw [q1, q2]
        exact ⟨y2, y3, hm⟩
    have mm : ∀ a c : Nat, a ≤ 2880000000 → c ≤ 160000 → a * c < 9223372036854775808 := fun a c ha hc => Nat.lt_of_le_of_lt (Nat.mul_le_mul ha hc) (by decide)
    have hss : sR (sR u1 20 (gR u 20)) 20 (gR u 20) = sR u1 20 (gR u 20) := sR_sR _ _ _ _
    have e9 : (9 * (nI ω).toInt64 * (nI n).toInt64 * lN (hY ω loss n d) : Int64) = lN (9 * ω * n * hY ω loss n d) := by
      rw [nI_i64 (by omega), nI_i64 (by omega), show (9 : Int64) = lN 9 from rfl, lN_mul, lN_mul, lN_mul]
    have b9 : 9 * ω * n * hY ω loss n d < 9223372036854775808 := by
      have a1 : 9 * ω * n ≤ 9 * 500 * 4 := Nat.mul_le_mul (Nat.mul_le_mul_left _ hω) (by omega)
      exact Nat.lt_of_le_of_lt (Nat.mul_le_mul a1 hy) (by decide)
    have hst : ∃ u', mL_lawB_s1289 sa c6 (nI d) (nI ω) loss (lN X, lN Y, nI n, u) = some (.inr (lN (hX ω loss n d), lN (hY ω loss n d), nI (n + 1), u')) ∧ ST b L K O F u' := by
      unfold mL_lawB_s1289 mL_lawB_s1289_j1425
      dsimp only
      rw [if_neg (show ¬ (5 : Int32) ≤ nI n from nI_ge (b := 5) hn (by decide)), p1, bs]
      dsimp only
      rw [gd_t rfl, w0, bs]
      dsimp only
      rw [hss, w1, bs]
      dsimp only
      rw [hss, lN_mul, lN_mul, gd_t (c_ge (mm _ _ x2 hb0.2.1) (mm _ _ hb0.1 hy) hb0.2.2), w0, bs]
      dsimp only
      rw [hss, w1, bs]
      dsimp only
      rw [e9, gd_t (c_le (by omega) b9 x1), hss, w0, bs]
      dsimp only
      rw [hss, w1, bs]
      dsimp only
      rw [hss, i_s]
      by_cases c : n = 0
      · rw [if_pos (show nI n = 0 by rw [c]; rfl)]
        exact ⟨_, rfl, hu1⟩
      · rw [if_neg (show ¬ nI n = (0 : Int32) from fun z => c ((nI_eq (a := n) (b := 0) (by omega) (by decide)).mp z))]
        obtain ⟨r1, u2, q1, q2, q3⟩ := s_drive hu1.1 (n := n) h1 h3 (by omega) (by omega) (show ω ≤ 999 by omega) hl
        have hu2 := h.nx q3
        obtain ⟨r2, u3, t1, t2, t3⟩ := s_drive hu2.1 (n := n) h1 h3 (by omega) (by omega) (show ω ≤ 999 by omega) hl
        have hu3 := h.nx t3
        rw [q1, bs]
        dsimp only
        rw [gd_t (nI_pos (by omega)), t1, bs]
        dsimp only
        rw [gd_t (show ¬ (10 : Int32) ≤ nI r2 from nI_ge (b := 10) (by omega) (by decide))]
        exact ⟨_, rfl, hu3⟩
    obtain ⟨u', s1, s2⟩ := hst
    rw [lp_go s1]
    exact ih (n + 1) u' _ _ (by omega) s2 (Or.inr ⟨by omega, rfl, rfl⟩)
end MORE
