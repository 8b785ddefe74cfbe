/-! lowest terms in the model -/
def FF (v v' : KS) : Prop := (∀ k, gI v' k = gI v k) ∧ (∀ k, k ≠ 4 ∧ k ≠ 5 → gR v' k = gR v k) ∧ gL v' = gL v ∧ gA v' = gA v ∧ gO v' = gO v
theorem FF.rf (v : KS) : FF v v := ⟨fun _ => rfl, fun _ _ => rfl, rfl, rfl, rfl⟩
theorem FF.tr {u v w : KS} (h : FF u v) (g : FF v w) : FF u w := ⟨fun k => (g.1 k).trans (h.1 k), fun k hk => (g.2.1 k hk).trans (h.2.1 k hk), g.2.2.1.trans h.2.2.1, g.2.2.2.1.trans h.2.2.2.1, g.2.2.2.2.trans h.2.2.2.2⟩
theorem LF.ff {r : Nat} {v v' : KS} (h : LF r v v') : FF v v' := ⟨h.1, h.2.1, h.2.2.2.2.1, h.2.2.2.2.2.1, h.2.2.2.2.2.2⟩
theorem LG.ff {r : Nat} {v v' : KS} (h : LG r v v') : FF v v' := ⟨h.1, h.2.1, h.2.2.2.2.1, h.2.2.2.2.2.1, h.2.2.2.2.2.2⟩
theorem RH.w0 {v : KS} {r x : Nat} (h : RH v r x) : (gR v 5 r ≤ 0 ↔ x = 0) ∧ (gR v 5 r = 0 ↔ x = 0) := by
  obtain ⟨h1, h2, w, h3, h4, h5⟩ := h
  have hz := h5.z
  rw [h3]
  constructor
  · rw [show (0 : Int32) = nI 0 from rfl, nI_leI (by omega) (by decide)]
    omega
  · rw [show (0 : Int32) = nI 0 from rfl, nI_eq (by omega) (by decide)]
    omega
theorem two_cop {y : Nat} (h : y % 2 = 1) : Nat.Coprime 2 y := by
  show Nat.gcd 2 y = 1
  rw [Nat.gcd_rec, h]
  rfl
theorem gcd_halfL {x y : Nat} (hx : x % 2 = 0) (hy : y % 2 = 1) : Nat.gcd (x / 2) y = Nat.gcd x y := by
  have e : x = 2 * (x / 2) := by omega
  have h := Nat.Coprime.gcd_mul_left_cancel (x / 2) (two_cop hy)
  rw [← e] at h
  exact h.symm
theorem gcd_halfR {x y : Nat} (hy : y % 2 = 0) (hx : x % 2 = 1) : Nat.gcd x (y / 2) = Nat.gcd x y := by
  rw [Nat.gcd_comm x, Nat.gcd_comm x]
  exact gcd_halfL hy hx
theorem e_s16 : ∀ (N : Nat) (v : KS) (a c : Nat), a < N → 0 < a → 0 < c → RH v 0 a → RH v 1 c → ∃ v' a' c', lpF mX6_lowers_s16 v = some v' ∧ RH v' 0 a' ∧ RH v' 1 c' ∧ FF v v' ∧ 0 < a' ∧ 0 < c' ∧ (a' % 2 = 1 ∨ c' % 2 = 1) ∧ a' / Nat.gcd a' c' = a / Nat.gcd a c ∧ c' / Nat.gcd a' c' = c / Nat.gcd a c := by
  intro N
  induction N with
  | zero => intro v a c h; exact absurd h (Nat.not_lt_zero _)
  | succ N ih =>
    intro v a c hN ha hc h0 h1
    have i0 := e_isEven (by decide) h0
    have i1 := e_isEven (by decide) h1
    have i0' : mX6_isEven v 0 = _ := i0
    have i1' : mX6_isEven v 1 = _ := i1
    by_cases c0 : a % 2 = 0
    · by_cases c1 : c % 2 = 0
      · obtain ⟨v1, p1, p2, p3⟩ := e_halves (by decide) h0
        obtain ⟨v2, r1, r2, r3⟩ := e_halves (r := 1) (by decide) (h1.lf p3 (by decide))
        have p1' : mX6_halves v 0 = some v1 := p1
        have r1' : mX6_halves v1 1 = some v2 := r1
        have st : mX6_lowers_s16 v = some (.inr v2) := by
          unfold mX6_lowers_s16
          rw [i0', bs, b_i2, if_pos c0, i1', bs, b_i2, if_pos c1, p1', bs, r1', bs]
        obtain ⟨v', a', c', q1, q2, q3, q4, q5, q6, q7, q8, q9⟩ := ih v2 (a / 2) (c / 2) (by omega) (by omega) (by omega) (p2.lf r3 (by decide)) r2
        refine ⟨v', a', c', by rw [lp_go st]; exact q1, q2, q3, (p3.ff.tr r3.ff).tr q4, q5, q6, q7, ?_, ?_⟩
        · rw [q8]
          have e1 : a = 2 * (a / 2) := by omega
          have e2 : c = 2 * (c / 2) := by omega
          have e3 : Nat.gcd a c = 2 * Nat.gcd (a / 2) (c / 2) := by
            rw [← Nat.gcd_mul_left, ← e1, ← e2]
          rw [e3]
          conv => rhs; rw [e1]
          rw [Nat.mul_div_mul_left _ _ (by decide), Nat.mul_div_cancel_left _ (by decide)]
        · rw [q9]
          have e1 : a = 2 * (a / 2) := by omega
          have e2 : c = 2 * (c / 2) := by omega
          have e3 : Nat.gcd a c = 2 * Nat.gcd (a / 2) (c / 2) := by
            rw [← Nat.gcd_mul_left, ← e1, ← e2]
          rw [e3]
          conv => rhs; rw [e2]
          rw [Nat.mul_div_mul_left _ _ (by decide), Nat.mul_div_cancel_left _ (by decide)]
      · refine ⟨v, a, c, lp_stop ?_, h0, h1, FF.rf v, ha, hc, Or.inr (by omega), rfl, rfl⟩
        unfold mX6_lowers_s16
        rw [i0', bs, b_i2, if_pos c0, i1', bs, b_i2, if_neg c1]
    · refine ⟨v, a, c, lp_stop ?_, h0, h1, FF.rf v, ha, hc, Or.inl (by omega), rfl, rfl⟩
      unfold mX6_lowers_s16
      rw [i0', bs, b_i2, if_neg c0]
def R4 (v : KS) (a c x y : Nat) : Prop := RH v 0 a ∧ RH v 1 c ∧ RH v 2 x ∧ RH v 3 y
theorem e_s66 {a c y : Nat} : ∀ (N : Nat) (v : KS) (x : Nat), x < N → 0 < x → (x % 2 = 1 ∨ y % 2 = 1) → R4 v a c x y → ∃ v' x', lpF mX6_lowers_s66 v = some v' ∧ R4 v' a c x' y ∧ FF v v' ∧ 0 < x' ∧ x' ≤ x ∧ x' % 2 = 1 ∧ Nat.gcd x' y = Nat.gcd x y := by
  intro N
  induction N with
  | zero => intro v x h; exact absurd h (Nat.not_lt_zero _)
  | succ N ih =>
    intro v x hN hx hod h
    have i2 : mX6_isEven v 2 = _ := e_isEven (r := 2) (by decide) h.2.2.1
    by_cases c0 : x % 2 = 0
    · obtain ⟨v1, p1, p2, p3⟩ := e_halves (r := 2) (by decide) h.2.2.1
      have p1' : mX6_halves v 2 = some v1 := p1
      have st : mX6_lowers_s66 v = some (.inr v1) := by
        unfold mX6_lowers_s66
        rw [i2, bs, b_i2, if_pos c0, p1', bs]
      obtain ⟨v', x', q1, q2, q3, q4, q5, q6, q7⟩ := ih v1 (x / 2) (by omega) (by omega) (Or.inr (by omega)) ⟨h.1.lf p3 (by decide), h.2.1.lf p3 (by decide), p2, h.2.2.2.lf p3 (by decide)⟩
      exact ⟨v', x', by rw [lp_go st]; exact q1, q2, p3.ff.tr q3, q4, by omega, q6, q7.trans (gcd_halfL c0 (by omega))⟩
    · refine ⟨v, x, lp_stop ?_, h, FF.rf v, hx, Nat.le_refl _, by omega, rfl⟩
      unfold mX6_lowers_s66
      rw [i2, bs, b_i2, if_neg c0]
theorem e_s82 {a c x : Nat} (hx : x % 2 = 1) : ∀ (N : Nat) (v : KS) (y : Nat), y < N → 0 < y → R4 v a c x y → ∃ v' y', lpF mX6_lowers_s82 v = some v' ∧ R4 v' a c x y' ∧ FF v v' ∧ 0 < y' ∧ y' ≤ y ∧ y' % 2 = 1 ∧ Nat.gcd x y' = Nat.gcd x y := by
  intro N
  induction N with
  | zero => intro v y h; exact absurd h (Nat.not_lt_zero _)
  | succ N ih =>
    intro v y hN hy h
    have i3 : mX6_isEven v 3 = _ := e_isEven (r := 3) (by decide) h.2.2.2
    by_cases c0 : y % 2 = 0
    · obtain ⟨v1, p1, p2, p3⟩ := e_halves (r := 3) (by decide) h.2.2.2
      have p1' : mX6_halves v 3 = some v1 := p1
      have st : mX6_lowers_s82 v = some (.inr v1) := by
        unfold mX6_lowers_s82
        rw [i3, bs, b_i2, if_pos c0, p1', bs]
      obtain ⟨v', y', q1, q2, q3, q4, q5, q6, q7⟩ := ih v1 (y / 2) (by omega) (by omega) ⟨h.1.lf p3 (by decide), h.2.1.lf p3 (by decide), h.2.2.1.lf p3 (by decide), p2⟩
      exact ⟨v', y', by rw [lp_go st]; exact q1, q2, p3.ff.tr q3, q4, by omega, q6, q7.trans (gcd_halfR c0 hx)⟩
    · refine ⟨v, y, lp_stop ?_, h, FF.rf v, hy, Nat.le_refl _, by omega, rfl⟩
      unfold mX6_lowers_s82
      rw [i3, bs, b_i2, if_neg c0]
theorem e_s57 {a c : Nat} : ∀ (N : Nat) (v : KS) (x y : Nat), x + y < N → 0 < y → (x % 2 = 1 ∨ y % 2 = 1) → R4 v a c x y → ∃ v', lpF mX6_lowers_s57 v = some v' ∧ R4 v' a c 0 (Nat.gcd x y) ∧ FF v v' := by
  intro N
  induction N with
  | zero => intro v x y h; exact absurd h (Nat.not_lt_zero _)
  | succ N ih =>
    intro v x y hN hy hod h
    have hz := h.2.2.1.w0
    have c3 : (3 : Int32).toNatClampNeg = 3 := rfl
    by_cases c0 : x = 0
    · subst c0
      refine ⟨v, lp_stop ?_, by rw [Nat.gcd_zero_left]; exact h, FF.rf v⟩
      unfold mX6_lowers_s57
      rw [c_2, if_pos (hz.1.mpr rfl)]
    · obtain ⟨v1, x1, p1, p2, p3, p4, p5, p6, p7⟩ := e_s66 (N := x + 1) (y := y) v x (by omega) (by omega) hod h
      obtain ⟨v2, y1, r1, r2, r3, r4, r5, r6, r7⟩ := e_s82 p6 (N := y + 1) v1 y (by omega) hy p2
      obtain ⟨cc, t1, t2⟩ := e_against (r := 2) (q := 3) (by decide) (by decide) r2.2.2.1 r2.2.2.2
      have t1' : mX6_against v2 2 3 = some cc := t1
      have hg : Nat.gcd x1 y1 = Nat.gcd x y := r7.trans p7
      by_cases d : x1 < y1
      · obtain ⟨v3, s1, s2, s3⟩ := e_lessens (r := 3) (q := 2) (by decide) (by decide) (by decide) r2.2.2.2 r2.2.2.1 (Nat.le_of_lt d)
        have s1' : mX6_lessens v2 3 (5 - 3) = some v3 := s1
        have hR : R4 v3 a c x1 (y1 - x1) := ⟨r2.1.lf s3 (by decide), r2.2.1.lf s3 (by decide), r2.2.2.1.lf s3 (by decide), s2⟩
        have hz3 := s2.w0
        have st : mX6_lowers_s57 v = some (.inr v3) := by
          unfold mX6_lowers_s57
          rw [c_2, if_neg (fun z => c0 (hz.1.mp z)), p1, bs, r1, bs, t1', bs, if_pos (t2.mpr d), s1', bs, c3, if_neg (fun z => by have := hz3.2.mp z; omega)]
        obtain ⟨v', q1, q2, q3⟩ := ih v3 x1 (y1 - x1) (by omega) (by omega) (Or.inl p6) hR
        refine ⟨v', by rw [lp_go st]; exact q1, ?_, ((p3.tr r3).tr s3.ff).tr q3⟩
        rw [← hg, ← Nat.gcd_sub_self_right (Nat.le_of_lt d)]
        exact q2
      · obtain ⟨v3, s1, s2, s3⟩ := e_lessens (r := 2) (q := 3) (by decide) (by decide) (by decide) r2.2.2.1 r2.2.2.2 (by omega)
        have s1' : mX6_lessens v2 2 (5 - 2) = some v3 := s1
        have hR : R4 v3 a c (x1 - y1) y1 := ⟨r2.1.lf s3 (by decide), r2.2.1.lf s3 (by decide), s2, r2.2.2.2.lf s3 (by decide)⟩
        have hz3 := hR.2.2.2.w0
        have st : mX6_lowers_s57 v = some (.inr v3) := by
          unfold mX6_lowers_s57
          rw [c_2, if_neg (fun z => c0 (hz.1.mp z)), p1, bs, r1, bs, t1', bs, if_neg (fun z => d (t2.mp z)), s1', bs, c3, if_neg (fun z => by have := hz3.2.mp z; omega)]
        obtain ⟨v', q1, q2, q3⟩ := ih v3 (x1 - y1) y1 (by omega) r4 (Or.inr r6) hR
        refine ⟨v', by rw [lp_go st]; exact q1, ?_, ((p3.tr r3).tr s3.ff).tr q3⟩
        rw [← hg, ← Nat.gcd_sub_self_left (show y1 ≤ x1 by omega)]
        exact q2
theorem e_lowers {v : KS} {A C : Nat} (hC : 0 < C) (h0 : RH v 0 A) (h1 : RH v 1 C) : ∃ v', mX6_lowers v = some v' ∧ RH v' 0 (A / Nat.gcd A C) ∧ RH v' 1 (C / Nat.gcd A C) ∧ FF v v' := by
  have hz := h0.w0
  unfold mX6_lowers
  rw [c_0]
  by_cases c : A = 0
  · subst c
    obtain ⟨v', q1, q2, q3⟩ := e_sets (v := v) (r := 1) (x := 1) (by decide) (by decide)
    have q1' : mX6_sets v 1 1 = some v' := q1
    rw [if_pos (hz.2.mpr rfl), q1', bs]
    refine ⟨v', rfl, ?_, ?_, q3.ff⟩
    · rw [Nat.zero_div]; exact h0.lf q3 (by decide)
    · rw [Nat.gcd_zero_left, Nat.div_self hC]; exact q2
  · obtain ⟨v1, a, b, p1, p2, p3, p4, p5, p6, p7, p8, p9⟩ := e_s16 (A + 1) v A C (by omega) (by omega) hC h0 h1
    obtain ⟨v2, r1, r2, r3⟩ := e_copies (v := v1) (r := 2) (q := 0) (by decide) (by decide) (by decide) p2
    have p3' := p3.lf r3 (show 1 ≠ 2 by decide)
    obtain ⟨v3, s1, s2, s3⟩ := e_copies (v := v2) (r := 3) (q := 1) (by decide) (by decide) (by decide) p3'
    have hR : R4 v3 a b a b := ⟨(p2.lf r3 (by decide)).lf s3 (by decide), p3'.lf s3 (by decide), r2.lf s3 (by decide), s2⟩
    obtain ⟨v4, t1, t2, t3⟩ := e_s57 (a + b + 1) v3 a b (by omega) p6 p7 hR
    have hg : 0 < Nat.gcd a b := Nat.gcd_pos_of_pos_left _ p5
    have hgo : Nat.gcd a b % 2 = 1 := by
      refine Classical.byContradiction (fun z => ?_)
      have hd : 2 ∣ Nat.gcd a b := Nat.dvd_of_mod_eq_zero (by omega)
      have d1 := Nat.dvd_trans hd (Nat.gcd_dvd_left a b)
      have d2 := Nat.dvd_trans hd (Nat.gcd_dvd_right a b)
      omega
    have ea : Nat.gcd a b * (a / Nat.gcd a b) = a := Nat.mul_div_cancel' (Nat.gcd_dvd_left a b)
    have eb : Nat.gcd a b * (b / Nat.gcd a b) = b := Nat.mul_div_cancel' (Nat.gcd_dvd_right a b)
    obtain ⟨v5, w1, w2, w3⟩ := e_parts (v := v4) (r := 0) (T := Nat.gcd a b) (Q := a / Nat.gcd a b) (by decide) (by rw [ea]; exact t2.1) t2.2.2.2 hgo
    obtain ⟨v6, y1, y2, y3⟩ := e_parts (v := v5) (r := 1) (T := Nat.gcd a b) (Q := b / Nat.gcd a b) (by decide) (by rw [eb]; exact t2.2.1.lg w3 (by decide) (by decide)) (t2.2.2.2.lg w3 (by decide) (by decide)) hgo
    have r1' : mX6_copies v1 2 0 = some v2 := r1
    have s1' : mX6_copies v2 3 1 = some v3 := s1
    have w1' : mX6_parts v4 0 = some v5 := w1
    have y1' : mX6_parts v5 1 = some v6 := y1
    rw [if_neg (fun z => c (hz.2.mp z)), p1, bs, r1', bs, s1', bs, t1, bs, w1', bs, y1', bs]
    refine ⟨v6, rfl, ?_, ?_, ((((p4.tr r3.ff).tr s3.ff).tr t3).tr w3.ff).tr y3.ff⟩
    · rw [← p8]; exact w2.lg y3 (by decide) (by decide)
    · rw [← p9]; exact y2
def TF (v v' : KS) : Prop := (∀ k, k ≠ 0 → gI v' k = gI v k) ∧ (∀ k, k ≠ 4 ∧ k ≠ 5 → gR v' k = gR v k) ∧ gL v' = gL v ∧ gA v' = gA v ∧ gO v' = gO v
theorem cmp_ge (a : Nat) (ha : a < 9223372036854775808) : 0 ≤ lg_cmp (lN a) 0 := by
  rw [← Int32.not_lt, z_cmplt, zl_lt, zl_nN ha, show (0 : Int64).toInt = 0 from rfl]
  omega
theorem e_tells {v : KS} {p q : Nat} (hp : p < 4611686018427387904) (hq : 0 < q ∧ q < 4611686018427387904) : ∃ v', mX6_tells v (lN p) (lN q) = some (1, v') ∧ RH v' 0 (p / Nat.gcd p q) ∧ RH v' 1 (q / Nat.gcd p q) ∧ gI v' 0 = 0 ∧ TF v v' := by
  obtain ⟨v1, a1, a2, a3⟩ := e_sets (v := v) (r := 0) (x := p) (by decide) hp
  obtain ⟨v2, b1, b2, b3⟩ := e_sets (v := v1) (r := 1) (x := q) (by decide) hq.2
  obtain ⟨v3, c1, c2, c3, c4⟩ := e_lowers hq.1 (a2.lf b3 (by decide)) b2
  have a1' : mX6_sets v 0 (lN p) = some v1 := a1
  have b1' : mX6_sets v1 1 (lN q) = some v2 := b1
  have hf := (a3.ff.tr b3.ff).tr c4
  unfold mX6_tells
  rw [if_pos (cmp_ge p (by omega)), a1', bs, b1', bs, c1, bs, if_pos (cmp_ge p (by omega))]
  exact ⟨sI v3 0 0, rfl, c2, c3, rfl, fun k hk => by rw [s_II, if_neg hk]; exact hf.1 k, hf.2.1, hf.2.2.1, hf.2.2.2.1, hf.2.2.2.2⟩
/-! the class's share: Euclid's steps -/
theorem l_div {a b : Nat} (ha : a < 9223372036854775808) (hb : b < 9223372036854775808) : lN a / lN b = lN (a / b) := by
  refine zl_inj ?_
  have hle : a / b ≤ a := Nat.div_le_self a b
  rw [Int64.toInt_div, zl_bm, zl_nN ha, zl_nN hb, zl_nN (by omega), ← Int.ofNat_tdiv]
  generalize a / b = q at hle
  omega
theorem l_rem {a b : Nat} (ha : a < 9223372036854775808) (hb : b < 9223372036854775808) : lN a - lN a / lN b * lN b = lN (a % b) := by
  have h1 := Nat.mod_add_div a b
  rw [l_div ha hb, lN_mul, lN_sub (by rw [Nat.mul_comm]; omega)]
  congr 1
  rw [Nat.mul_comm (a / b)]
  omega
def fbp : Nat → Nat × Nat
  | 0 => (1, 1)
  | n + 1 => ((fbp n).2, (fbp n).1 + (fbp n).2)
def euF : Nat → Nat → Nat → Prop
  | 0, _, b => b = 0
  | n + 1, a, b => b = 0 ∨ euF n b (a % b)
theorem euF_not : ∀ (n a b : Nat), b ≤ a → ¬ euF n a b → (fbp n).1 ≤ b ∧ (fbp n).2 ≤ a := by
  intro n
  induction n with
  | zero =>
    intro a b hle h
    have h : ¬ b = 0 := h
    exact ⟨show 1 ≤ b by omega, show 1 ≤ a by omega⟩
  | succ n ih =>
    intro a b hle h
    have h1 : ¬ b = 0 := fun z => h (Or.inl z)
    have h2 : ¬ euF n b (a % b) := fun z => h (Or.inr z)
    have hm := Nat.mod_lt a (show b > 0 by omega)
    obtain ⟨q1, q2⟩ := ih b (a % b) (Nat.le_of_lt hm) h2
    refine ⟨q2, ?_⟩
    show (fbp n).1 + (fbp n).2 ≤ a
    have h3 := Nat.mod_add_div a b
    have h4 : b ≤ b * (a / b) := Nat.le_mul_of_pos_right b (Nat.div_pos hle (by omega))
    omega
theorem euF_99 : 9223372036854775808 < (fbp 98).1 := by decide +kernel
theorem euF_ok {a b : Nat} (ha : a < 9223372036854775808) (hb : b < 9223372036854775808) : euF 99 a b := by
  by_cases h0 : b = 0
  · exact Or.inl h0
  · refine Or.inr (Classical.byContradiction (fun z => ?_))
    have hm := Nat.mod_lt a (show b > 0 by omega)
    have := euF_not 98 b (a % b) (Nat.le_of_lt hm) z
    have := euF_99
    omega
theorem e_comL : ∀ (n a b i : Nat), i + n ≤ 100 → a < 9223372036854775808 → b < 9223372036854775808 → euF n a b → lpF mX1_commonOf_s9 (lN a, lN b, nI i) = some (lN (Nat.gcd a b)) := by
  have stop : ∀ a i : Nat, i ≤ 100 → mX1_commonOf_s9 (lN a, lN 0, nI i) = some (.inl (lN a)) := by
    intro a i hi
    unfold mX1_commonOf_s9
    dsimp only
    by_cases c : 100 ≤ i
    · rw [if_pos (show (100 : Int32) ≤ nI i from nI_le (a := 100) c (by omega))]
    · rw [if_neg (show ¬ (100 : Int32) ≤ nI i from nI_ge (b := 100) (by omega) (by decide)), if_pos ((lN_0 (by decide)).mpr rfl)]
  intro n
  induction n with
  | zero =>
    intro a b i hi ha hb h
    have h : b = 0 := h
    subst h
    rw [Nat.gcd_zero_right]
    exact lp_stop (stop a i (by omega))
  | succ n ih =>
    intro a b i hi ha hb h
    by_cases h0 : b = 0
    · subst h0
      rw [Nat.gcd_zero_right]
      exact lp_stop (stop a i (by omega))
    · have h1 : euF n b (a % b) := h.resolve_left h0
      have hm := Nat.mod_lt a (show b > 0 by omega)
      have hnz : ¬ lN b = (0 : Int64) := fun z => h0 (lN_inj hb (by decide) z)
      have st : mX1_commonOf_s9 (lN a, lN b, nI i) = some (.inr (lN b, lN (a % b), nI (i + 1))) := by
        unfold mX1_commonOf_s9
        dsimp only
        rw [if_neg (show ¬ (100 : Int32) ≤ nI i from nI_ge (b := 100) (by omega) (by decide)), if_neg (fun z => h0 ((lN_0 hb).mp z)), gd_t hnz, l_rem ha hb, i_s]
      rw [lp_go st, ih b (a % b) (i + 1) (by omega) hb (by omega) h1, Nat.gcd_comm a b, Nat.gcd_rec b a, Nat.gcd_comm]
theorem e_write {f : Nat → Int64} {x : Nat} (hx : x < 4611686018427387904) : ∃ g, mX1_write 3 f (lN x) = some g ∧ ∀ k, k < 3 → g k = lN (lb x k) := by
  have e := lp_fd0 (S := mX1_write_s2 3 (lN x)) (fun k (y : Nat → Int64) => (nI k, y)) (fun k y => vp_updL y (0 + k) (lN (lb x k))) (fun y => y) 3 f
    (fun k y hk => by
      unfold mX1_write_s2
      dsimp only
      rw [if_neg (show ¬ Int32.ofNat 3 ≤ nI k from nI_ge hk (by decide)), gd_t (i_k hk (by decide)), i_cl (by omega), sh_k hx hk, i_s, Nat.zero_add])
    (fun y => by
      unfold mX1_write_s2
      dsimp only
      rw [if_pos (by decide)])
  refine ⟨_, by
    unfold mX1_write
    exact (congrArg (fun o => Option.bind o fun e => some e) e).trans rfl, fun k hk => ?_⟩
  rw [fd_upL 0 (fun k => lN (lb x k)), if_pos (by omega)]
  rfl
theorem e_setShare {u : KS} {p q : Nat} (hp : p < 4611686018427387904) (hq : 0 < q ∧ q < 4611686018427387904) : ∃ A C, mX1_setShare u (lN p) (lN q) = some (sA (sA u 2 A) 3 C) ∧ ∀ k, k < 3 → A k = lN (lb (p / Nat.gcd p q) k) ∧ C k = lN (lb (q / Nat.gcd p q) k) := by
  have hg : 0 < Nat.gcd p q := Nat.gcd_pos_of_pos_right _ hq.1
  have hgl : Nat.gcd p q ≤ q := Nat.gcd_le_right p hq.1
  have hc : mX1_commonOf (lN q) (lN p) = some (lN (Nat.gcd p q)) := by
    have e := e_comL 99 q p 0 (by decide) (by omega) (by omega) (euF_ok (by omega) (by omega))
    rw [Nat.gcd_comm q p] at e
    unfold mX1_commonOf
    exact (congrArg (fun o => Option.bind o fun e => some e) e).trans rfl
  have d1 : p / Nat.gcd p q ≤ p := Nat.div_le_self _ _
  have d2 : q / Nat.gcd p q ≤ q := Nat.div_le_self _ _
  obtain ⟨A, a1, a2⟩ := e_write (f := gA u 2) (x := p / Nat.gcd p q) (by omega)
  obtain ⟨C, b1, b2⟩ := e_write (f := gA u 3) (x := q / Nat.gcd p q) (by omega)
  have hnz : ¬ lN (Nat.gcd p q) = (0 : Int64) := fun z => by
    have := lN_inj (a := Nat.gcd p q) (b := 0) (by omega) (by decide) z
    omega
  refine ⟨A, C, ?_, fun k hk => ⟨a2 k hk, b2 k hk⟩⟩
  unfold mX1_setShare
  rw [hc, bs, if_neg (fun z => by have := (lN_le0 (by omega)).mp z; omega), gd_t hnz, l_div (by omega) (by omega), a1, bs, gd_t hnz, l_div (by omega) (by omega), b1, bs]
theorem FR_of {u v : KS} {x y : Nat} (h0 : gI v 0 = 0) (ha : ∀ k, k < 3 → gA u 2 k = lN (lb x k) ∧ gA u 3 k = lN (lb y k)) (hx : RH v 0 x) (hy : RH v 1 y) : FR u v := by
  obtain ⟨x1, x2, w, x3, x4, x5⟩ := hx
  obtain ⟨y1, y2, w', y3, y4, y5⟩ := hy
  refine ⟨h0, x, y, ⟨x1, y1⟩, fun k hk => ⟨(ha k hk).1, (ha k hk).2, ?_, y2 k (by omega)⟩, ?_, ?_⟩
  · have := x2 k (by omega)
    rw [Nat.mul_zero, Nat.zero_add] at this
    exact this
  · rw [x3, IsW_lc x5 x1]
  · rw [y3, IsW_lc y5 y1]
theorem Rel_frac {u u' v v' : KS} {k0 k1 : Option KS} (h : Rel u k0 k1 v) (hi : ∀ k, k < 10 → gI u' k = gI u k) (hr : gR u' = gR u) (h0 : gA u' 0 = gA u 0) (hl : gL u' 0 = gL u 0) (t : ∀ k, k < 4 → gR v' k = gR v k) (hF : FR u' v') : Rel u' k0 k1 v' := by
  obtain ⟨L, K, P, ⟨hT, hS, hp, hm, hlk, hq⟩, a1, a2, a3, a4, a5⟩ := h
  have rr : ∀ k, gR u' k = gR u k := fun k => by rw [hr]
  have dk : ∀ t L f, DayOk u t L f → DayOk u' t L f := by
    intro t L f hd
    unfold DayOk at hd ⊢
    rw [hi 5 (by decide), hi 6 (by decide), hr]
    exact hd
  refine ⟨L, K, P, ?_, Img_cg a1 (by rw [t 2 (by decide)]) (fun j _ => by rw [t 1 (by decide)]), Img_cg a2 (by rw [t 2 (by decide)]) (fun j _ => by rw [t 1 (by decide)]), fun j hj => ?_, hF, ?_⟩
  · rw [t 0 (by decide)]
    exact ⟨Kt_cg hT (hi 2 (by decide)) (rr 1) rfl (fun _ _ => rfl), Ks_cg hS (rr 2) (fun _ _ => rfl), Kp_cg hp (rr 3) (fun _ _ => rfl), Km_cg hm (rr 4) (fun _ _ => rfl), Kl_cg hlk (hi 3 (by decide)) (rr 5) rfl (fun _ _ => rfl), Kq_cg hq (hi 4 (by decide)) (rr 6) rfl (fun _ _ => rfl)⟩
  · rw [rr 0, t 3 (by decide)]; exact a3 j hj
  · rw [t 0 (by decide)]
    unfold CA at a5 ⊢
    rw [hi 0 (by decide), hi 1 (by decide)]
    refine ⟨?_, ?_⟩
    · rcases a5.1 with z | ⟨z1, z2⟩
      · exact Or.inl z
      · exact Or.inr ⟨z1, dk _ _ _ z2⟩
    · rcases a5.2 with z | ⟨z1, z2, D, z3, z4⟩
      · exact Or.inl z
      · refine Or.inr ⟨z1, z2, D, z3, ?_⟩
        unfold GsOk at z4 ⊢
        rw [h0, hl]
        exact z4
theorem lm_share {u v : KS} {k0 k1 : Option KS} (h : Rel u k0 k1 v) {p q : Nat} (hp : p < 4611686018427387904) (hq : 0 < q ∧ q < 4611686018427387904) : ∃ u' v', mX1_setShare u (lN p) (lN q) = some u' ∧ mX6_tells v (lN p) (lN q) = some (1, v') ∧ Rel u' k0 k1 v' ∧ gO u' = gO u := by
  obtain ⟨A, C, a1, a2⟩ := e_setShare (u := u) hp hq
  obtain ⟨v', b1, b2, b3, b4, b5⟩ := e_tells (v := v) hp hq
  refine ⟨_, v', a1, b1, ?_, rfl⟩
  exact Rel_frac h (fun _ _ => rfl) rfl rfl rfl (fun k hk => b5.2.1 k (by omega)) (FR_of b4 a2 b2 b3)
