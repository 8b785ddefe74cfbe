/-! the class alone: gone, harvest, drive -/
/-- how it stands after n days, lowered -/
def gz (l d n : Nat) : Nat × Nat := lowN 5 n (lowN 2 (2 * n) ((goI l d n).1, (goI l d n).2.1))
def gzA (l d n : Nat) : Bool := decide ((gz l d n).1 ≤ (gz l d n).2) && (decide ((gz l d n).2 < 1073741824) && (decide (0 < (gz l d n).2) && (n == 0 || decide ((gz l d (n - 1)).1 * (gz l d n).2 ≤ (gz l d n).1 * (gz l d (n - 1)).2)) && (d == 3 || decide ((gz l d n).1 * (gz l (d + 1) n).2 ≤ (gz l (d + 1) n).1 * (gz l d n).2))))
theorem gz_all : ∀ l, l < 10 → ∀ d, d < 4 → 1 ≤ d → ∀ n, n < 7 → gzA l d n = true := by decide +kernel
theorem gz_ok {l d n : Nat} (hl : l < 10) (h1 : 1 ≤ d) (h3 : d ≤ 3) (hn : n < 7) : (gz l d n).1 ≤ (gz l d n).2 ∧ (gz l d n).2 < 1073741824 ∧ 0 < (gz l d n).2 ∧ (n = 0 ∨ (gz l d (n - 1)).1 * (gz l d n).2 ≤ (gz l d n).1 * (gz l d (n - 1)).2) ∧ (d = 3 ∨ (gz l d n).1 * (gz l (d + 1) n).2 ≤ (gz l (d + 1) n).1 * (gz l d n).2) := by
  have h := gz_all l hl d (by omega) h1 n hn
  unfold gzA at h
  simp only [Bool.and_eq_true, Bool.or_eq_true, decide_eq_true_eq, beq_iff_eq] at h
  exact ⟨h.1, h.2.1, h.2.2.1.1, h.2.2.1.2, h.2.2.2⟩
section GH
variable {u : KS} {b : Nat → Int32} {L K : Nat} {O : Nat → Option Nat}
theorem rc_fr {u' : KS} {x y : Nat} (h : RC u b L K O) (hi : ∀ k, k < 10 → gI u' k = gI u k) (hr : gR u' = gR u) (h0 : gA u' 0 = gA u 0) (hl : gL u' 0 = gL u 0) (hO : gO u' = gO u) (hF : FX u' x y) : RC u' b L K O := by
  obtain ⟨⟨hT, hS, hp, hm, hl', hq⟩, hC, a3, a4, a5⟩ := h
  refine ⟨⟨Kt_cg hT (hi 2 (by decide)) (by rw [hr]) rfl (fun _ _ => rfl), Ks_cg hS (by rw [hr]) (fun _ _ => rfl), Kp_cg hp (by rw [hr]) (fun _ _ => rfl), Km_cg hm (by rw [hr]) (fun _ _ => rfl), Kl_cg hl' (hi 3 (by decide)) (by rw [hr]) rfl (fun _ _ => rfl), Kq_cg hq (hi 4 (by decide)) (by rw [hr]) rfl (fun _ _ => rfl)⟩, ?_, by rw [hr]; exact a3, ⟨x, y, hF⟩, hO.trans a5⟩
  unfold CA DayOk GsOk at hC ⊢
  rw [hi 0 (by decide), hi 1 (by decide), hi 5 (by decide), hi 6 (by decide), hr, h0, hl]
  exact hC
theorem s_gone (h : RC u b L K O) {d l n : Nat} (h1 : 1 ≤ d) (h3 : d ≤ 3) (hl : l < 10) (hn : n < 7) : ∃ u', mX5_gone u (nI d) (nI l) (nI n) = some (1, u') ∧ RC u' b L K O ∧ FX u' (gz l d n).1 (gz l d n).2 := by
  obtain ⟨u1, a1, a2, a3, a4⟩ := e_setGone (u := u) ⟨h1, h3⟩ hl (show n ≤ 20 by omega)
  obtain ⟨g1, g2, g3, -⟩ := gz_ok hl h1 h3 hn
  have zd : (nI d).toInt = (d : Int) := z_nN (by omega)
  have zl : (nI l).toInt = (l : Int) := z_nN (by omega)
  have zn : (nI n).toInt = (n : Int) := z_nN (by omega)
  have hF : FX u1 (gz l d n).1 (gz l d n).2 := ⟨⟨Nat.lt_of_lt_of_le (Nat.lt_of_le_of_lt g1 g2) (by decide), Nat.lt_of_lt_of_le g2 (by decide)⟩, fun k hk => ⟨a3 k hk, a4 k hk⟩⟩
  refine ⟨u1, ?_, rc_fr h (fun k _ => a2.1 k) a2.2.1 (a2.2.2.2.1 0 (by decide)) (by rw [a2.2.2.1]) a2.2.2.2.2 hF, hF⟩
  unfold mX5_gone
  rw [e_isDeep, bs, b_i2, if_pos (by omega), if_neg (by (simp only [z_lt, z_le, z_gt, z_ge, z_eq, zm1, zm2, Int32.reduceToInt] at *; omega)), if_neg (by (simp only [z_lt, z_le, z_gt, z_ge, z_eq, zm1, zm2, Int32.reduceToInt] at *; omega)), if_neg (by (simp only [z_lt, z_le, z_gt, z_ge, z_eq, zm1, zm2, Int32.reduceToInt] at *; omega)), if_pos (by (simp only [z_lt, z_le, z_gt, z_ge, z_eq, zm1, zm2, Int32.reduceToInt] at *; omega)), a1, bs]
/-- what days of driving come to, times 20 for each -/
def hb (ω : Nat) (loss : Int32) (n d : Nat) : Nat := (dB (nI ω) loss n d).toInt.toNat
theorem hb_is {ω : Nat} {loss : Int32} (hω : ω ≤ 999) (hl : 0 ≤ loss.toInt ∧ loss.toInt ≤ 99999) {n d : Nat} (hn : n ≤ 10) (h1 : 1 ≤ d) (h3 : d ≤ 3) : dB (nI ω) loss n d = lN (hb ω loss n d) ∧ ((hb ω loss n d : Nat) : Int) = (dB (nI ω) loss n d).toInt := by
  obtain ⟨b1, b2⟩ := dB_b hω hl n hn d h1 h3
  have e : ((hb ω loss n d : Nat) : Int) = (dB (nI ω) loss n d).toInt := by unfold hb; omega
  exact ⟨zl_nat e.symm, e⟩
theorem hb_up {ω : Nat} {loss : Int32} (hω : ω ≤ 999) (hl : 0 ≤ loss.toInt ∧ loss.toInt ≤ 99999) : ∀ k, k ≤ 9 → ∀ d, 1 ≤ d → d ≤ 3 → (dB (nI ω) loss k d).toInt ≤ 9 * ω * k * ((20 ^ k : Nat) : Int) ∧ 20 * (dB (nI ω) loss k d).toInt ≤ (dB (nI ω) loss (k + 1) d).toInt ∧ (dB (nI ω) loss (k + 1) d).toInt ≤ 9 * ω * (k + 1) * ((20 ^ (k + 1) : Nat) : Int) := by
  have step : ∀ k, k ≤ 9 → (∀ d, 1 ≤ d → d ≤ 3 → (dB (nI ω) loss k d).toInt ≤ 9 * ω * k * ((20 ^ k : Nat) : Int)) → ∀ d, 1 ≤ d → d ≤ 3 → 20 * (dB (nI ω) loss k d).toInt ≤ (dB (nI ω) loss (k + 1) d).toInt ∧ (dB (nI ω) loss (k + 1) d).toInt ≤ 9 * ω * (k + 1) * ((20 ^ (k + 1) : Nat) : Int) := by
    intro k hk ih d hd1 hd3
    obtain ⟨m1, m2⟩ := mB_le k (by omega)
    obtain ⟨y1, y2⟩ := dB_b hω hl k (by omega) d hd1 hd3
    have hneg : (-loss).toInt64.toInt = -loss.toInt := by
      rw [z_i2l, z_negc (by omega)]
    have hB0 : (0 : Int) ≤ 9 * ω * k * ((20 ^ k : Nat) : Int) := Int.mul_nonneg (Int.mul_nonneg (by omega) (by omega)) (Int.natCast_nonneg _)
    have hx : -51200000000000000 ≤ (if d = 3 then (-loss).toInt64 * s20 k else dB (nI ω) loss k (d + 1)).toInt ∧ (if d = 3 then (-loss).toInt64 * s20 k else dB (nI ω) loss k (d + 1)).toInt ≤ (mB k : Int) ∧ (if d = 3 then (-loss).toInt64 * s20 k else dB (nI ω) loss k (d + 1)).toInt ≤ 9 * ω * k * ((20 ^ k : Nat) : Int) := by
      by_cases c : d = 3
      · rw [if_pos c]
        have zs : (s20 k).toInt = ((20 ^ k : Nat) : Int) := zl_nN (by omega)
        have b1 : (0 : Int) ≤ loss.toInt * ((20 ^ k : Nat) : Int) := Int.mul_nonneg hl.1 (Int.natCast_nonneg _)
        have b2 : loss.toInt * ((20 ^ k : Nat) : Int) ≤ 99999 * ((20 ^ k : Nat) : Int) := Int.mul_le_mul_of_nonneg_right hl.2 (Int.natCast_nonneg _)
        have e : (-loss).toInt64.toInt * (s20 k).toInt = -(loss.toInt * ((20 ^ k : Nat) : Int)) := by rw [hneg, zs, Int.neg_mul]
        rw [zl_mulc (by rw [e]; omega) (by rw [e]; omega), e]
        omega
      · rw [if_neg c]
        obtain ⟨x1, x2⟩ := dB_b hω hl k (by omega) (d + 1) (by omega) (by omega)
        exact ⟨by omega, x2, ih (d + 1) (by omega) (by omega)⟩
    have hy := ih d hd1 hd3
    have hv : ∀ l, l ≤ 9 → (vW (nI ω) (s20 k) (if d = 3 then (-loss).toInt64 * s20 k else dB (nI ω) loss k (d + 1)) (dB (nI ω) loss k d) l).toInt = ((l * ω * 20 * 20 ^ k : Nat) : Int) + (l : Int) * (if d = 3 then (-loss).toInt64 * s20 k else dB (nI ω) loss k (d + 1)).toInt + ((20 - l : Nat) : Int) * (dB (nI ω) loss k d).toInt := fun l hl9 => vW_i hω hl9 rfl m2 ⟨hx.1, by omega, trivial⟩ ⟨y1, by omega⟩ (by omega)
    have e : dB (nI ω) loss (k + 1) d = (mX (nI ω) (s20 k) (if d = 3 then (-loss).toInt64 * s20 k else dB (nI ω) loss k (d + 1)) (dB (nI ω) loss k d) 9).2 := rfl
    rw [e]
    have eB : (9 * ω * (k + 1) * ((20 ^ (k + 1) : Nat) : Int) : Int) = 20 * (9 * ω * ((20 ^ k : Nat) : Int)) + 20 * (9 * ω * k * ((20 ^ k : Nat) : Int)) := by
      have : ((20 ^ (k + 1) : Nat) : Int) = ((20 ^ k : Nat) : Int) * 20 := by rw [Nat.pow_succ, Int.natCast_mul]; rfl
      rw [this]
      generalize ((20 ^ k : Nat) : Int) = S
      have h1 : (9 * (ω : Int) * ((k : Int) + 1)) = 9 * ω * k + 9 * ω := by rw [Int.mul_add, Int.mul_one]
      rw [h1, Int.add_mul]
      generalize 9 * (ω : Int) = w9
      have h2 : w9 * (k : Int) * (S * 20) = 20 * (w9 * k * S) := by rw [← Int.mul_assoc, Int.mul_comm]
      have h3 : w9 * (S * 20) = 20 * (w9 * S) := by rw [← Int.mul_assoc, Int.mul_comm]
      rw [h2, h3]; omega
    rw [eB]
    generalize 9 * (ω : Int) * k * ((20 ^ k : Nat) : Int) = B at *
    generalize (if d = 3 then (-loss).toInt64 * s20 k else dB (nI ω) loss k (d + 1)) = X at *
    generalize dB (nI ω) loss k d = Y at *
    constructor
    · have g := mX_ge (nI ω) (s20 k) X Y 9
      have g0 := hv 0 (by decide)
      rw [show 0 * ω * 20 * 20 ^ k = 0 by simp] at g0
      omega
    · obtain ⟨g1, g2⟩ := mX_v (nI ω) (s20 k) X Y 9
      rw [g1, hv _ g2]
      generalize (mX (nI ω) (s20 k) X Y 9).1 = l at *
      have hm3 : ((l * ω * 20 * 20 ^ k : Nat) : Int) ≤ 20 * (9 * ω * ((20 ^ k : Nat) : Int)) := by
        have h1 : l * ω * 20 * 20 ^ k ≤ 9 * ω * 20 * 20 ^ k := Nat.mul_le_mul_right _ (Nat.mul_le_mul_right _ (Nat.mul_le_mul_right _ g2))
        have h2 : ((9 * ω * 20 * 20 ^ k : Nat) : Int) = 20 * (9 * ω * ((20 ^ k : Nat) : Int)) := by
          rw [Int.natCast_mul, Int.natCast_mul, Int.natCast_mul]
          generalize ((20 ^ k : Nat) : Int) = S
          rw [Int.mul_assoc (((9 : Nat) : Int) * ω) _ S, Int.mul_left_comm]
          rfl
        omega
      generalize ((l * ω * 20 * 20 ^ k : Nat) : Int) = p at *
      generalize 20 * (9 * (ω : Int) * ((20 ^ k : Nat) : Int)) = Z at *
      rcases (show l = 0 ∨ l = 1 ∨ l = 2 ∨ l = 3 ∨ l = 4 ∨ l = 5 ∨ l = 6 ∨ l = 7 ∨ l = 8 ∨ l = 9 by omega) with q | q | q | q | q | q | q | q | q | q <;> subst q <;> omega
  intro k
  induction k with
  | zero =>
    intro hk d h1 h3
    have h0 : ∀ d, 1 ≤ d → d ≤ 3 → (dB (nI ω) loss 0 d).toInt ≤ 9 * ω * (0 : Nat) * ((20 ^ 0 : Nat) : Int) := fun d _ _ => by show (0 : Int) ≤ _; simp
    exact ⟨h0 d h1 h3, step 0 hk h0 d h1 h3⟩
  | succ k ih =>
    intro hk d h1 h3
    have h0 : ∀ d, 1 ≤ d → d ≤ 3 → (dB (nI ω) loss (k + 1) d).toInt ≤ 9 * ω * ((k + 1 : Nat) : Int) * ((20 ^ (k + 1) : Nat) : Int) := fun d q1 q3 => (ih (by omega) d q1 q3).2.2
    exact ⟨h0 d h1 h3, step (k + 1) hk h0 d h1 h3⟩
theorem s_harvest (h : RC u b L K O) {d n ω : Nat} {loss : Int32} (h1 : 1 ≤ d) (h3 : d ≤ 3) (hn : n ≤ 9) (hω : ω ≤ 999) (hl : 0 ≤ loss.toInt ∧ loss.toInt ≤ 99999) : ∃ u', mX5_harvest u (nI d) (nI n) (nI ω) loss = some (1, u') ∧ RC u' b L K O ∧ FX u' (hb ω loss n d / Nat.gcd (hb ω loss n d) (20 ^ n)) (20 ^ n / Nat.gcd (hb ω loss n d) (20 ^ n)) := by
  have zd : (nI d).toInt = (d : Int) := z_nN (by omega)
  have zn : (nI n).toInt = (n : Int) := z_nN (by omega)
  have zω : (nI ω).toInt = (ω : Int) := z_nN (by omega)
  obtain ⟨u', q1, q2, q3, q4, q5⟩ := e_make (u := u) (w := nI ω) (loss := loss) ⟨h1, h3⟩ (show n ≤ 10 by omega)
  obtain ⟨b1, b2⟩ := dB_b hω hl n (by omega) d h1 h3
  obtain ⟨b3, b4⟩ := mB_10 n (by omega)
  obtain ⟨hpb, hpe⟩ := hb_is hω hl (show n ≤ 10 by omega) h1 h3
  have hpos : 0 < 20 ^ n := Nat.pow_pos (by decide)
  obtain ⟨x0, y0, hF0⟩ := h.2.2.2.1
  have hF' : FX u' x0 y0 := ⟨hF0.1, fun k hk => by rw [q2.2.2.2.1 2 (by decide), q2.2.2.2.1 3 (by decide)]; exact hF0.2 k hk⟩
  have hR := rc_fr h (fun k hk => q2.1 k (by omega)) q2.2.1 (q2.2.2.2.1 0 (by decide)) (q2.2.2.1 0 (by decide)) q2.2.2.2.2 hF'
  obtain ⟨u2, s1, s2, s3⟩ := rc_share hR (p := hb ω loss n d) (q := 20 ^ n) (by omega) ⟨hpos, b4⟩
  have ha : mX5_at_ 5 (gA u' 1) (nI d) = some (lN (hb ω loss n d)) := by
    rw [← hpb, ← q4 d h1 h3]
    exact e_atN_ (by decide) _ (by omega)
  have hq : s20 n = lN (20 ^ n) := rfl
  refine ⟨u2, ?_, s2, s3⟩
  unfold mX5_harvest
  rw [e_isPlan, bs, b_i2, if_neg (by (simp only [z_lt, z_le, z_gt, z_ge, z_eq, zm1, zm2, Int32.reduceToInt] at *; omega)), if_pos ⟨by omega, by omega, by omega, hl⟩, q1, bs, ha, bs, q3, hq, s1, bs]
theorem s_drive (h : RC u b L K O) {d n ω : Nat} {loss : Int32} (h1 : 1 ≤ d) (h3 : d ≤ 3) (hn : n ≤ 9) (hn1 : 1 ≤ n) (hω : ω ≤ 999) (hl : 0 ≤ loss.toInt ∧ loss.toInt ≤ 99999) : ∃ r u', mX5_drive u (nI d) (nI n) (nI ω) loss = some (nI r, u') ∧ r ≤ 9 ∧ RC u' b L K O := by
  have zd : (nI d).toInt = (d : Int) := z_nN (by omega)
  have zn : (nI n).toInt = (n : Int) := z_nN (by omega)
  have zω : (nI ω).toInt = (ω : Int) := z_nN (by omega)
  obtain ⟨u', q1, q2, q3, q4, q5⟩ := e_make (u := u) (w := nI ω) (loss := loss) ⟨h1, h3⟩ (show n ≤ 10 by omega)
  obtain ⟨x0, y0, hF0⟩ := h.2.2.2.1
  have hF' : FX u' x0 y0 := ⟨hF0.1, fun k hk => by rw [q2.2.2.2.1 2 (by decide), q2.2.2.2.1 3 (by decide)]; exact hF0.2 k hk⟩
  refine ⟨dL9 (nI ω) loss (n - 1) d, u', ?_, ?_, rc_fr h (fun k hk => q2.1 k (by omega)) q2.2.1 (q2.2.2.2.1 0 (by decide)) (q2.2.2.1 0 (by decide)) q2.2.2.2.2 hF'⟩
  · unfold mX5_drive
    rw [e_isPlan, bs, b_i2, if_neg (by (simp only [z_lt, z_le, z_gt, z_ge, z_eq, zm1, zm2, Int32.reduceToInt] at *; omega)), if_pos ⟨by omega, by omega, by omega, hl⟩, q1, bs]
    rw [q5, if_neg (by omega)]
  · unfold dL9
    exact (mX_v _ _ _ _ 9).2
end GH
