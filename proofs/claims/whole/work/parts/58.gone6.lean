/-! gone, in the model -/
def trI (l k w : Nat) : Nat → Nat
  | 0 => w
  | i + 1 => trI l k w i * (if i < k then l else 20 - l)
def suI (l n : Nat) : Nat → Nat × Nat
  | 0 => (1, 0)
  | k + 1 => ((suI l n k).1 * (n - k) / (k + 1), (suI l n k).2 + trI l k (suI l n k).1 n)
theorem tr_small : ∀ l, l < 10 → ∀ n, n < 21 → ∀ k, k < 3 → ∀ i, i < n → trI l k (suI l n k).1 (i + 1) < 1073741824 ^ 3 := by decide +kernel
theorem w_small : ∀ l, l < 10 → ∀ n, n < 21 → ∀ k, k < 3 → (suI l n k).1 < 1000 := by decide +kernel
theorem s_small : ∀ l, l < 10 → ∀ n, n < 21 → ∀ k, k < 3 → (suI l n (k + 1)).2 < 1073741824 ^ 3 := by decide +kernel
def goF (l d n : Nat) : Bool := decide ((suI l n (min (4 - d) (n + 1))).2 ≤ 20 ^ n) && (decide (20 ^ n < 1073741824 ^ 3) && decide (lowN 5 n (lowN 2 (2 * n) ((goI l d n).1, (goI l d n).2.1)) = ((20 ^ n - (suI l n (min (4 - d) (n + 1))).2) / Nat.gcd (20 ^ n - (suI l n (min (4 - d) (n + 1))).2) (20 ^ n), 20 ^ n / Nat.gcd (20 ^ n - (suI l n (min (4 - d) (n + 1))).2) (20 ^ n))))
theorem go_all : ∀ l, l < 10 → ∀ d, d < 4 → 1 ≤ d → ∀ n, n < 21 → goF l d n = true := by decide +kernel
theorem e_trm {l n k w S : Nat} {v0 : KS} {c1 : Int32} {c4 : Int64} (hl : l < 10) (hn : n ≤ 20) (hk : k ≤ 3) (hs : ∀ i, i < n → trI l k w (i + 1) < 1073741824 ^ 3) : ∀ m i (v : KS), i + m = n → FF v0 v → RH v 6 (trI l k w i) → RH v 5 S → ∃ v', lpF (mX6_gone_s73 c1 (nI l) (nI n) c4 (nI k)) (nI i, v) = some v' ∧ FF v0 v' ∧ RH v' 6 (trI l k w n) ∧ RH v' 5 S := by
  intro m
  induction m with
  | zero =>
    intro i v h0 h1 h2 h3
    have h0 : i = n := h0
    subst h0
    refine ⟨v, lp_stop ?_, h1, h2, h3⟩
    unfold mX6_gone_s73
    dsimp only
    rw [if_pos (Int32.le_refl _)]
  | succ m ih =>
    intro i v h0 h1 h2 h3
    have hi : i < n := by omega
    have e20 : (20 : Int32) - nI l = nI (20 - l) := i_sub (a := 20) (by omega) (by decide)
    have hs' := hs i hi
    by_cases c : i < k
    · have e : trI l k w (i + 1) = trI l k w i * l := by show _ * _ = _; rw [if_pos c]
      rw [e] at hs'
      obtain ⟨v1, p1, p2, p3⟩ := e_times (r := 6) (c := l) (by decide) h2 (by omega) hs'
      have p1' : mX6_times v 6 (nI l) = some v1 := p1
      have st : mX6_gone_s73 c1 (nI l) (nI n) c4 (nI k) (nI i, v) = some (.inr (nI (i + 1), v1)) := by
        unfold mX6_gone_s73
        dsimp only
        rw [if_neg (nI_ge hi (by omega)), if_neg (nI_ge c (by omega)), p1', bs, i_s]
      rw [lp_go st]
      exact ih (i + 1) v1 (by omega) (h1.tr p3.ff) (by rw [e]; exact p2) (h3.lf p3 (by decide))
    · have e : trI l k w (i + 1) = trI l k w i * (20 - l) := by show _ * _ = _; rw [if_neg c]
      rw [e] at hs'
      obtain ⟨v1, p1, p2, p3⟩ := e_times (r := 6) (c := 20 - l) (by decide) h2 (by omega) hs'
      have p1' : mX6_times v 6 (nI (20 - l)) = some v1 := p1
      have st : mX6_gone_s73 c1 (nI l) (nI n) c4 (nI k) (nI i, v) = some (.inr (nI (i + 1), v1)) := by
        unfold mX6_gone_s73
        dsimp only
        rw [if_neg (nI_ge hi (by omega)), if_pos (nI_le (by omega) (by omega)), e20, p1', bs, i_s]
      rw [lp_go st]
      exact ih (i + 1) v1 (by omega) (h1.tr p3.ff) (by rw [e]; exact p2) (h3.lf p3 (by decide))
theorem e_sumL {l n d : Nat} {v0 : KS} (hl : l < 10) (hn : n ≤ 20) (hd : 1 ≤ d ∧ d ≤ 3) : ∀ m k (v : KS), k + m = min (4 - d) (n + 1) → FF v0 v → RH v 5 (suI l n k).2 → ∃ v', lpF (mX6_gone_s48 (nI d) (nI l) (nI n)) (lN (suI l n k).1, nI k, v) = some v' ∧ FF v0 v' ∧ RH v' 5 (suI l n (min (4 - d) (n + 1))).2 := by
  have e4 : (4 : Int32) - nI d = nI (4 - d) := i_sub (a := 4) (by omega) (by decide)
  intro m
  induction m with
  | zero =>
    intro k v h0 h1 h2
    have h0 : k = min (4 - d) (n + 1) := h0
    refine ⟨v, lp_stop ?_, h1, by rw [← h0]; exact h2⟩
    unfold mX6_gone_s48
    dsimp only
    rw [e4]
    by_cases c : 4 - d ≤ k
    · rw [if_pos (nI_le c (by omega))]
    · rw [if_neg (nI_ge (by omega) (by omega)), if_pos (nI_lt (show n < k by omega) (by omega))]
  | succ m ih =>
    intro k v h0 h1 h2
    have hk4 : k < 4 - d := by omega
    have hkn : k ≤ n := by omega
    have hw := w_small l hl n (by omega) k (by omega)
    obtain ⟨v1, p1, p2, p3⟩ := e_sets (v := v) (r := 6) (x := (suI l n k).1) (by decide) (by omega)
    obtain ⟨v2, q1, q2, q3, q4⟩ := e_trm (k := k) (w := (suI l n k).1) (v0 := v1) (c1 := nI d) (c4 := lN (suI l n k).1) hl hn (by omega) (fun i hi => tr_small l hl n (by omega) k (by omega) i hi) n 0 v1 (by omega) (FF.rf v1) p2 (h2.lf p3 (by decide))
    have hss := s_small l hl n (by omega) k (by omega)
    obtain ⟨v3, r1, r2, r3⟩ := e_adds (r := 5) (q := 6) (by decide) (by decide) (by decide) q4 q3 hss
    have p1' : mX6_sets v 6 (lN (suI l n k).1) = some v1 := p1
    have q1' : lpF (mX6_gone_s73 (nI d) (nI l) (nI n) (lN (suI l n k).1) (nI k)) (0, v1) = some v2 := q1
    have r1' : mX6_adds v2 5 6 = some v3 := r1
    have enk : nI n - nI k = nI (n - k) := i_sub hkn (by omega)
    have hnz : ¬ (nI k + 1).toInt64 = (0 : Int64) := by
      rw [i_s, nI_l (by omega)]
      intro z
      have := lN_inj (a := k + 1) (b := 0) (by omega) (by decide) z
      omega
    have hm : (suI l n k).1 * (n - k) ≤ 1000 * 20 := Nat.mul_le_mul (Nat.le_of_lt hw) (by omega)
    have hdv : lN (suI l n k).1 * (nI n - nI k).toInt64 / (nI k + 1).toInt64 = lN (suI l n (k + 1)).1 := by
      rw [enk, i_s, nI_l (by omega), nI_l (by omega), lN_mul, l_div (by omega) (by omega)]
      rfl
    have st : mX6_gone_s48 (nI d) (nI l) (nI n) (lN (suI l n k).1, nI k, v) = some (.inr (lN (suI l n (k + 1)).1, nI (k + 1), v3)) := by
      unfold mX6_gone_s48
      dsimp only
      rw [e4, if_neg (nI_ge hk4 (by omega)), if_neg (nI_nlt hkn (by omega)), p1', bs, q1', bs, r1', bs, gd_t hnz, hdv, i_s]
    rw [lp_go st]
    exact ih (k + 1) v3 (by omega) (((h1.tr p3.ff).tr q2).tr r3.ff) r2
theorem e_pow {n S : Nat} {v0 : KS} (hn : n ≤ 20) (hs : ∀ i, i ≤ n → 20 ^ i < 1073741824 ^ 3) : ∀ m i (v : KS), i + m = n → FF v0 v → RH v 1 (20 ^ i) → RH v 5 S → ∃ v', lpF (mX6_gone_s144 (nI n)) (nI i, v) = some v' ∧ FF v0 v' ∧ RH v' 1 (20 ^ n) ∧ RH v' 5 S := by
  intro m
  induction m with
  | zero =>
    intro i v h0 h1 h2 h3
    have h0 : i = n := h0
    subst h0
    refine ⟨v, lp_stop ?_, h1, h2, h3⟩
    unfold mX6_gone_s144
    dsimp only
    rw [if_pos (Int32.le_refl _)]
  | succ m ih =>
    intro i v h0 h1 h2 h3
    have hi : i < n := by omega
    have e : (20 : Nat) ^ (i + 1) = 20 ^ i * 20 := Nat.pow_succ ..
    have hs' := hs (i + 1) hi
    rw [e] at hs'
    obtain ⟨v1, p1, p2, p3⟩ := e_times (r := 1) (c := 20) (by decide) h2 (by omega) hs'
    have p1' : mX6_times v 1 20 = some v1 := p1
    have st : mX6_gone_s144 (nI n) (nI i, v) = some (.inr (nI (i + 1), v1)) := by
      unfold mX6_gone_s144
      dsimp only
      rw [if_neg (nI_ge hi (by omega)), p1', bs, i_s]
    rw [lp_go st]
    exact ih (i + 1) v1 (by omega) (h1.tr p3.ff) (by rw [e]; exact p2) (h3.lf p3 (by decide))
theorem p20 : ∀ i, i < 21 → 20 ^ i < 1073741824 ^ 3 := by decide +kernel
theorem lm_gone : LM_gone Rel := by
  intro u k0 k1 v a1 a2 a3 hR
  unfold mX5_gone mX6_gone
  rw [e_isDeep, bs, b_i2, e_isDeep6, bs, b_i2, e_inc a2 0 9 (l := 0) (h := 9) rfl rfl, bs, b_i2, e_inc a3 0 20 (l := 0) (h := 20) rfl rfl, bs, b_i2]
  by_cases c : (1 ≤ a1.toInt ∧ a1.toInt ≤ 3) ∧ (0 ≤ a2.toInt ∧ a2.toInt ≤ 9) ∧ 0 ≤ a3.toInt ∧ a3.toInt ≤ 20
  · obtain ⟨c1, c2, c3⟩ := c
    rw [if_pos c1, if_pos c1, if_pos c2, if_pos c3, if_neg (by (simp only [z_lt, z_le, z_gt, z_ge, z_eq, zm1, zm2, Int32.reduceToInt] at *; omega)), if_neg (by (simp only [z_lt, z_le, z_gt, z_ge, z_eq, zm1, zm2, Int32.reduceToInt] at *; omega)), if_neg (by (simp only [z_lt, z_le, z_gt, z_ge, z_eq, zm1, zm2, Int32.reduceToInt] at *; omega)), if_pos (by (simp only [z_lt, z_le, z_gt, z_ge, z_eq, zm1, zm2, Int32.reduceToInt] at *; omega))]
    obtain ⟨d, hd, rfl⟩ := n_ex (a := a1) (n := 3) ⟨by omega, c1.2⟩
    obtain ⟨l, hl, rfl⟩ := n_ex (a := a2) (n := 9) c2
    obtain ⟨n, hn, rfl⟩ := n_ex (a := a3) (n := 20) c3
    have zd : (nI d).toInt = (d : Int) := z_nN (by omega)
    have hd1 : 1 ≤ d ∧ d ≤ 3 := by omega
    obtain ⟨u1, a1, a2, a3, a4⟩ := e_setGone (u := u) hd1 (show l < 10 by omega) hn
    have hgo := go_all l (by omega) d (by omega) hd1.1 n (by omega)
    unfold goF at hgo
    rw [Bool.and_eq_true, Bool.and_eq_true, decide_eq_true_iff, decide_eq_true_iff, decide_eq_true_iff] at hgo
    obtain ⟨g1, g2, g3⟩ := hgo
    rw [g3] at a3 a4
    dsimp only at a3 a4
    obtain ⟨v1, b1, b2, b3⟩ := e_sets (v := v) (r := 5) (x := 0) (by decide) (by decide)
    obtain ⟨v2, d1, d2, d3⟩ := e_sumL (v0 := v1) (show l < 10 by omega) hn hd1 (min (4 - d) (n + 1)) 0 v1 (by omega) (FF.rf v1) b2
    obtain ⟨v3, f1, f2, f3⟩ := e_sets (v := v2) (r := 1) (x := 1) (by decide) (by decide)
    obtain ⟨v4, h1, h2, h3, h4⟩ := e_pow (v0 := v3) hn (fun i hi => p20 i (by omega)) n 0 v3 (by omega) (FF.rf v3) f2 (d3.lf f3 (by decide))
    obtain ⟨v5, i1, i2, i3⟩ := e_copies (v := v4) (r := 0) (q := 1) (by decide) (by decide) (by decide) h3
    obtain ⟨v6, j1, j2, j3⟩ := e_lessens (v := v5) (r := 0) (q := 5) (by decide) (by decide) (by decide) i2 (h4.lf i3 (by decide)) g1
    have hpos : 0 < 20 ^ n := Nat.pow_pos (by decide)
    obtain ⟨v7, y1, y2, y3, y4⟩ := e_lowers hpos j2 ((h3.lf i3 (by decide)).lf j3 (by decide))
    have b1' : mX6_sets v 5 0 = some v1 := b1
    have d1' : lpF (mX6_gone_s48 (nI d) (nI l) (nI n)) (1, 0, v1) = some v2 := d1
    have f1' : mX6_sets v2 1 1 = some v3 := f1
    have h1' : lpF (mX6_gone_s144 (nI n)) (0, v3) = some v4 := h1
    have i1' : mX6_copies v4 0 1 = some v5 := i1
    have j1' : mX6_lessens v5 0 5 = some v6 := j1
    rw [a1, bs, b1', bs, d1', bs, f1', bs, h1', bs, i1', bs, j1', bs, y1, bs]
    have hff := (((((b3.ff.tr d2).tr f3.ff).tr h2).tr i3.ff).tr j3.ff).tr y4
    refine ⟨1, u1, sI v7 0 0, rfl, rfl, ?_, a2.2.2.2.2⟩
    refine Rel_frac hR (fun k _ => a2.1 k) a2.2.1 (a2.2.2.2.1 0 (by decide)) (by rw [a2.2.2.1]) (fun k hk => hff.2.1 k (by omega)) ?_
    exact FR_of (x := (20 ^ n - (suI l n (min (4 - d) (n + 1))).2) / Nat.gcd (20 ^ n - (suI l n (min (4 - d) (n + 1))).2) (20 ^ n)) (y := 20 ^ n / Nat.gcd (20 ^ n - (suI l n (min (4 - d) (n + 1))).2) (20 ^ n)) rfl (fun k hk => ⟨a3 k hk, a4 k hk⟩) y2 y3
  · refine lm_b hR (j := 0) (by decide) (-2) ?_ ?_
    · have hb : ((mX5_bad u).bind fun r => some (r.1, r.2)) = some (-2, b5 u 0) := by rw [e_bad5]; rfl
      rw [hb]
      by_cases d1 : 1 ≤ a1.toInt ∧ a1.toInt ≤ 3
      · rw [if_pos d1]
        by_cases d2 : a2 < 0
        · rw [if_pos d2]
        · rw [if_neg d2]
          by_cases d3 : 9 < a2
          · rw [if_pos d3]
          · rw [if_neg d3]
            by_cases d4 : a3 < 0
            · rw [if_pos d4]
            · rw [if_neg d4, if_neg (by (simp only [z_lt, z_le, z_gt, z_ge, z_eq, zm1, zm2, Int32.reduceToInt] at *; omega))]
      · rw [if_neg d1]
    · have hb : ((mX6_bad v).bind fun r => some (r.1, r.2)) = some (-2, b6 v 0) := by rw [e_bad6]; rfl
      rw [hb]
      by_cases c1 : 1 ≤ a1.toInt ∧ a1.toInt ≤ 3
      · rw [if_pos c1]
        by_cases c2 : 0 ≤ a2.toInt ∧ a2.toInt ≤ 9
        · rw [if_pos c2, if_neg (fun z => c ⟨c1, c2, z⟩)]
        · rw [if_neg c2]
      · rw [if_neg c1]
