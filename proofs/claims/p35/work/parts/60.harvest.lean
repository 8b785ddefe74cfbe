/-! what a plan comes to is no less than 0, and no more than a long can hold -/
theorem zl_mulc {a b : Int64} (h1 : -9223372036854775808 ≤ a.toInt * b.toInt) (h2 : a.toInt * b.toInt < 9223372036854775808) : (a * b).toInt = a.toInt * b.toInt := by
  rw [zl_mul]
  generalize a.toInt * b.toInt = x at *
  omega
theorem zl_addc {a b : Int64} (h1 : -9223372036854775808 ≤ a.toInt + b.toInt) (h2 : a.toInt + b.toInt < 9223372036854775808) : (a + b).toInt = a.toInt + b.toInt := by
  rw [zl_add]
  omega
theorem vW_i {ω l S : Nat} {s x y : Int64} (hω : ω ≤ 999) (hl : l ≤ 9) (hs : s = lN S) (hS : S ≤ 512000000000) (hx : -51200000000000000 ≤ x.toInt ∧ x.toInt ≤ 1000000000000000000 ∧ True) (hy : 0 ≤ y.toInt ∧ y.toInt ≤ 420000000000000000) (hx2 : x.toInt ≤ 420000000000000000) : (vW (nI ω) s x y l).toInt = ((l * ω * 20 * S : Nat) : Int) + (l : Int) * x.toInt + ((20 - l : Nat) : Int) * y.toInt := by
  have hm : l * ω ≤ 9 * 999 := Nat.mul_le_mul hl hω
  have hm2 : l * ω * 20 ≤ 9 * 999 * 20 := Nat.mul_le_mul_right _ hm
  have hm3 : l * ω * 20 * S ≤ 179820 * S := Nat.mul_le_mul_right _ hm2
  have e1 : ((nI l * nI ω) * 20).toInt64 = lN (l * ω * 20) := by rw [show (20 : Int32) = nI 20 from rfl, i_mul, i_mul, nI_l (by omega)]
  have e2 : (20 - nI l : Int32).toInt64 = lN (20 - l) := by rw [show (20 : Int32) = nI 20 from rfl, i_sub (by omega) (by decide), nI_l (by omega)]
  have e3 : (nI l).toInt64 = lN l := nI_l (by omega)
  unfold vW
  rw [e1, e2, e3, hs, lN_mul]
  have z1 : (lN (l * ω * 20 * S)).toInt = ((l * ω * 20 * S : Nat) : Int) := zl_nN (by omega)
  generalize l * ω * 20 * S = p at *
  have zx : (lN l * x).toInt = (l : Int) * x.toInt := by
    have zl : (lN l).toInt = (l : Int) := zl_nN (by omega)
    have b : -(9 * 51200000000000000) ≤ (l : Int) * x.toInt ∧ (l : Int) * x.toInt ≤ 9 * 420000000000000000 := by
      rcases (show l = 0 ∨ l = 1 ∨ l = 2 ∨ l = 3 ∨ l = 4 ∨ l = 5 ∨ l = 6 ∨ l = 7 ∨ l = 8 ∨ l = 9 by omega) with q | q | q | q | q | q | q | q | q | q <;> subst q <;> omega
    rw [zl_mulc (by rw [zl]; omega) (by rw [zl]; omega), zl]
  have zy : (lN (20 - l) * y).toInt = ((20 - l : Nat) : Int) * y.toInt := by
    have zl : (lN (20 - l)).toInt = ((20 - l : Nat) : Int) := zl_nN (by omega)
    have b : 0 ≤ ((20 - l : Nat) : Int) * y.toInt ∧ ((20 - l : Nat) : Int) * y.toInt ≤ 20 * 420000000000000000 := by
      rcases (show l = 0 ∨ l = 1 ∨ l = 2 ∨ l = 3 ∨ l = 4 ∨ l = 5 ∨ l = 6 ∨ l = 7 ∨ l = 8 ∨ l = 9 by omega) with q | q | q | q | q | q | q | q | q | q <;> subst q <;> omega
    rw [zl_mulc (by rw [zl]; omega) (by rw [zl]; omega), zl]
  have bs : -(9 * 51200000000000000) ≤ (l : Int) * x.toInt + ((20 - l : Nat) : Int) * y.toInt ∧ (l : Int) * x.toInt + ((20 - l : Nat) : Int) * y.toInt ≤ 20 * 420000000000000000 ∧ -(9 * 51200000000000000) ≤ (l : Int) * x.toInt ∧ (l : Int) * x.toInt ≤ 9 * 420000000000000000 := by
    rcases (show l = 0 ∨ l = 1 ∨ l = 2 ∨ l = 3 ∨ l = 4 ∨ l = 5 ∨ l = 6 ∨ l = 7 ∨ l = 8 ∨ l = 9 by omega) with q | q | q | q | q | q | q | q | q | q <;> subst q <;> omega
  have za : (lN p + lN l * x).toInt = (p : Int) + (l : Int) * x.toInt := by rw [zl_addc (by rw [z1, zx]; omega) (by rw [z1, zx]; omega), z1, zx]
  rw [zl_addc (by rw [za, zy]; omega) (by rw [za, zy]; omega), za, zy]
def mB : Nat → Nat
  | 0 => 0
  | k + 1 => 179820 * 20 ^ k + 20 * mB k
theorem mB_le : ∀ k, k < 10 → mB k ≤ 420000000000000000 ∧ 20 ^ k ≤ 512000000000 := by decide +kernel
theorem mB_10 : ∀ k, k < 11 → mB k < 4611686018427387904 ∧ 20 ^ k < 4611686018427387904 := by decide +kernel
theorem mX_ge (w : Int32) (s x y : Int64) : ∀ l, (vW w s x y 0).toInt ≤ (mX w s x y l).2.toInt := by
  intro l
  induction l with
  | zero => exact Int.le_refl _
  | succ l ih =>
    unfold mX
    split
    · exact ih
    · next c =>
      rw [z_cmple, zl_le] at c
      dsimp only
      omega
theorem dB_b {ω : Nat} {loss : Int32} (hω : ω ≤ 999) (hl : 0 ≤ loss.toInt ∧ loss.toInt ≤ 99999) : ∀ k, k ≤ 10 → ∀ d, 1 ≤ d → d ≤ 3 → 0 ≤ (dB (nI ω) loss k d).toInt ∧ (dB (nI ω) loss k d).toInt ≤ (mB k : Int) := by
  intro k
  induction k with
  | zero => intro _ d _ _; exact ⟨by show (0 : Int) ≤ 0; omega, by show (0 : Int) ≤ 0; omega⟩
  | succ k ih =>
    intro hk d hd1 hd3
    obtain ⟨m1, m2⟩ := mB_le k (by omega)
    obtain ⟨y1, y2⟩ := ih (by omega) d hd1 hd3
    have hneg : (-loss).toInt64.toInt = -loss.toInt := by
      rw [z_i2l, z_negc (by omega)]
    have hx : -51200000000000000 ≤ (if d = 3 then (-loss).toInt64 * s20 k else dB (nI ω) loss k (d + 1)).toInt ∧ (if d = 3 then (-loss).toInt64 * s20 k else dB (nI ω) loss k (d + 1)).toInt ≤ (mB k : Int) := by
      by_cases c : d = 3
      · rw [if_pos c]
        have zs : (s20 k).toInt = ((20 ^ k : Nat) : Int) := zl_nN (by omega)
        have b1 : (0 : Int) ≤ loss.toInt * ((20 ^ k : Nat) : Int) := Int.mul_nonneg hl.1 (Int.natCast_nonneg _)
        have b2 : loss.toInt * ((20 ^ k : Nat) : Int) ≤ 99999 * ((20 ^ k : Nat) : Int) := Int.mul_le_mul_of_nonneg_right hl.2 (Int.natCast_nonneg _)
        have e : (-loss).toInt64.toInt * (s20 k).toInt = -(loss.toInt * ((20 ^ k : Nat) : Int)) := by rw [hneg, zs, Int.neg_mul]
        rw [zl_mulc (by rw [e]; omega) (by rw [e]; omega), e]
        omega
      · rw [if_neg c]
        obtain ⟨x1, x2⟩ := ih (by omega) (d + 1) (by omega) (by omega)
        exact ⟨by omega, x2⟩
    have hv : ∀ l, l ≤ 9 → (vW (nI ω) (s20 k) (if d = 3 then (-loss).toInt64 * s20 k else dB (nI ω) loss k (d + 1)) (dB (nI ω) loss k d) l).toInt = ((l * ω * 20 * 20 ^ k : Nat) : Int) + (l : Int) * (if d = 3 then (-loss).toInt64 * s20 k else dB (nI ω) loss k (d + 1)).toInt + ((20 - l : Nat) : Int) * (dB (nI ω) loss k d).toInt := fun l hl9 => vW_i hω hl9 rfl m2 ⟨hx.1, by omega, trivial⟩ ⟨y1, by omega⟩ (by omega)
    have e : dB (nI ω) loss (k + 1) d = (mX (nI ω) (s20 k) (if d = 3 then (-loss).toInt64 * s20 k else dB (nI ω) loss k (d + 1)) (dB (nI ω) loss k d) 9).2 := rfl
    rw [e]
    generalize (if d = 3 then (-loss).toInt64 * s20 k else dB (nI ω) loss k (d + 1)) = X at *
    generalize dB (nI ω) loss k d = Y at *
    constructor
    · have g := mX_ge (nI ω) (s20 k) X Y 9
      have g0 := hv 0 (by decide)
      rw [show 0 * ω * 20 * 20 ^ k = 0 by simp] at g0
      omega
    · obtain ⟨g1, g2⟩ := mX_v (nI ω) (s20 k) X Y 9
      rw [g1, hv _ g2]
      generalize (mX (nI ω) (s20 k) X Y 9).1 = l at *
      have hm : l * ω ≤ 9 * 999 := Nat.mul_le_mul g2 hω
      have hm2 : l * ω * 20 ≤ 9 * 999 * 20 := Nat.mul_le_mul_right _ hm
      have hm3 : l * ω * 20 * 20 ^ k ≤ 179820 * 20 ^ k := Nat.mul_le_mul_right _ hm2
      have eM : mB (k + 1) = 179820 * 20 ^ k + 20 * mB k := rfl
      rw [eM]
      generalize l * ω * 20 * 20 ^ k = p at *
      generalize 20 ^ k = S at *
      generalize mB k = M at *
      rcases (show l = 0 ∨ l = 1 ∨ l = 2 ∨ l = 3 ∨ l = 4 ∨ l = 5 ∨ l = 6 ∨ l = 7 ∨ l = 8 ∨ l = 9 by omega) with q | q | q | q | q | q | q | q | q | q <;> subst q <;> omega
theorem e_isPlan (a1 a2 a3 a4 : Int32) : mX5_isPlan a1 a2 a3 a4 = some (if (1 ≤ a1.toInt ∧ a1.toInt ≤ 3) ∧ a2.toInt ≤ 10 ∧ (0 ≤ a3.toInt ∧ a3.toInt ≤ 999) ∧ 0 ≤ a4.toInt ∧ a4.toInt ≤ 99999 then 1 else 0) := by
  unfold mX5_isPlan
  rw [e_isDeep, bs, b_i2]
  by_cases c : 1 ≤ a1.toInt ∧ a1.toInt ≤ 3
  · rw [if_pos c]
    repeat' split
    all_goals first | rfl | (exfalso; (simp only [z_lt, z_le, z_gt, z_ge, z_eq, zm1, zm2, Int32.reduceToInt] at *; omega))
  · rw [if_neg c, if_neg (fun q => c q.1)]
