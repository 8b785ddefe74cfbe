/-! rows of limbs: times, adds, lessens, halves, against -/
theorem lb_mulp (x k : Nat) : x = x % 1073741824 ^ k + 1073741824 ^ k * (lb x k + 1073741824 * (x / 1073741824 ^ (k + 1))) := by
  have h1 := Nat.mod_add_div x (1073741824 ^ k)
  have h2 := Nat.mod_add_div (x / 1073741824 ^ k) 1073741824
  have h3 : x / 1073741824 ^ (k + 1) = x / 1073741824 ^ k / 1073741824 := by rw [Bs, Nat.div_div_eq_div_mul]
  have h4 : lb x k = x / 1073741824 ^ k % 1073741824 := rfl
  rw [h3, h4, h2]
  exact h1.symm
theorem div_le_c {x c P : Nat} (hP : 0 < P) : x % P * c / P ≤ c := by
  refine Nat.div_le_of_le_mul ?_
  exact Nat.mul_le_mul_right c (Nat.le_of_lt (Nat.mod_lt x hP))
theorem lb_mul (x c k : Nat) : lb (x * c) k = (lb x k * c + x % 1073741824 ^ k * c / 1073741824 ^ k) % 1073741824 ∧ x % 1073741824 ^ (k + 1) * c / 1073741824 ^ (k + 1) = (lb x k * c + x % 1073741824 ^ k * c / 1073741824 ^ k) / 1073741824 := by
  refine ⟨dgN (M := x / 1073741824 ^ (k + 1) * c) (Bp k) ?_, ?_⟩
  · have h := lb_mulp x k
    generalize x / 1073741824 ^ (k + 1) = q at *
    generalize lb x k = l at *
    generalize x % 1073741824 ^ k = t at *
    generalize 1073741824 ^ k = P at *
    rw [h, Nat.add_mul, Nat.mul_assoc, Nat.add_mul, Nat.mul_assoc]
  · rw [nd_s, Nat.add_mul, Nat.mul_assoc, Bs]
    exact dgC (Bp k)
theorem lb_add (x y k : Nat) : lb (x + y) k = (lb x k + lb y k + (x % 1073741824 ^ k + y % 1073741824 ^ k) / 1073741824 ^ k) % 1073741824 ∧ (x % 1073741824 ^ (k + 1) + y % 1073741824 ^ (k + 1)) / 1073741824 ^ (k + 1) = (lb x k + lb y k + (x % 1073741824 ^ k + y % 1073741824 ^ k) / 1073741824 ^ k) / 1073741824 := by
  refine ⟨dgN (M := x / 1073741824 ^ (k + 1) + y / 1073741824 ^ (k + 1)) (Bp k) ?_, ?_⟩
  · have h := lb_mulp x k
    have h' := lb_mulp y k
    generalize x / 1073741824 ^ (k + 1) = q at *
    generalize lb x k = l at *
    generalize x % 1073741824 ^ k = t at *
    generalize y / 1073741824 ^ (k + 1) = q' at *
    generalize lb y k = l' at *
    generalize y % 1073741824 ^ k = t' at *
    generalize 1073741824 ^ k = P at *
    have e : l + l' + 1073741824 * (q + q') = (l + 1073741824 * q) + (l' + 1073741824 * q') := by omega
    have e2 : P * (l + 1073741824 * q + (l' + 1073741824 * q')) = P * (l + 1073741824 * q) + P * (l' + 1073741824 * q') := Nat.mul_add _ _ _
    rw [h, h', e, e2]
    omega
  · rw [nd_s, nd_s, Bs, show x % 1073741824 ^ k + 1073741824 ^ k * lb x k + (y % 1073741824 ^ k + 1073741824 ^ k * lb y k) = x % 1073741824 ^ k + y % 1073741824 ^ k + 1073741824 ^ k * (lb x k + lb y k) by rw [Nat.mul_add]; omega]
    exact dgC (Bp k)
theorem add_c1 {x y P : Nat} (hP : 0 < P) : (x % P + y % P) / P ≤ 1 := by
  have h1 := Nat.mod_lt x hP
  have h2 := Nat.mod_lt y hP
  have h3 : (x % P + y % P) / P < 2 := Nat.div_lt_of_lt_mul (by omega)
  omega
/-! lessens -/
theorem dzN {P t X Z M : Int} (hP : 0 < P) (hZ : Z = t + P * (X + 1073741824 * M)) : Z / P % 1073741824 = (X + t / P) % 1073741824 := by
  rw [hZ, Int.add_mul_ediv_left _ _ (by omega)]
  generalize t / P = q
  omega
theorem dzC {P t X : Int} (hP : 0 < P) : (t + P * X) / (P * 1073741824) = (X + t / P) / 1073741824 := by
  rw [← Int.ediv_ediv_of_nonneg (by omega), Int.add_mul_ediv_left _ _ (by omega), Int.add_comm]
theorem lbZ (x k : Nat) : ((lb x k : Nat) : Int) = (x : Int) / ((1073741824 ^ k : Nat) : Int) % 1073741824 := by
  unfold lb
  rw [Int.natCast_emod, Int.natCast_ediv]
  rfl
theorem lb_mulZ (x k : Nat) : (x : Int) = ((x % 1073741824 ^ k : Nat) : Int) + ((1073741824 ^ k : Nat) : Int) * ((lb x k : Nat) + 1073741824 * ((x / 1073741824 ^ (k + 1) : Nat) : Int)) := by
  have h := congrArg (fun n : Nat => (n : Int)) (lb_mulp x k)
  rw [Int.natCast_add, Int.natCast_mul, Int.natCast_add, Int.natCast_mul] at h
  exact h
theorem nd_sZ (x k : Nat) : ((x % 1073741824 ^ (k + 1) : Nat) : Int) = ((x % 1073741824 ^ k : Nat) : Int) + ((1073741824 ^ k : Nat) : Int) * ((lb x k : Nat) : Int) := by
  have h := congrArg (fun n : Nat => (n : Int)) (nd_s x k)
  rw [Int.natCast_add, Int.natCast_mul] at h
  exact h
def bz (x y k : Nat) : Int := (((x % 1073741824 ^ k : Nat) : Int) - ((y % 1073741824 ^ k : Nat) : Int)) / ((1073741824 ^ k : Nat) : Int)
theorem bz_r (x y k : Nat) : -1 ≤ bz x y k ∧ bz x y k ≤ 0 := by
  have hP := Bp k
  have h1 := Nat.mod_lt x hP
  have h2 := Nat.mod_lt y hP
  unfold bz
  generalize x % 1073741824 ^ k = a at *
  generalize y % 1073741824 ^ k = b at *
  generalize 1073741824 ^ k = P at *
  constructor
  · exact (Int.le_ediv_iff_mul_le (by omega)).mpr (by omega)
  · have := (Int.ediv_lt_iff_lt_mul (a := (a : Int) - b) (b := 1) (c := (P : Int)) (by omega)).mpr (by omega)
    omega
theorem lb_sub {x y : Nat} (h : y ≤ x) (k : Nat) : ((lb (x - y) k : Nat) : Int) = ((lb x k : Int) - (lb y k : Int) + bz x y k) % 1073741824 ∧ bz x y (k + 1) = ((lb x k : Int) - (lb y k : Int) + bz x y k) / 1073741824 := by
  have hP : (0 : Int) < ((1073741824 ^ k : Nat) : Int) := by have := Bp k; omega
  constructor
  · rw [lbZ]
    refine dzN (M := ((x / 1073741824 ^ (k + 1) : Nat) : Int) - ((y / 1073741824 ^ (k + 1) : Nat) : Int)) hP ?_
    rw [Int.ofNat_sub h]
    have e1 := lb_mulZ x k
    have e2 := lb_mulZ y k
    generalize ((x / 1073741824 ^ (k + 1) : Nat) : Int) = q at *
    generalize ((y / 1073741824 ^ (k + 1) : Nat) : Int) = q' at *
    generalize ((lb x k : Nat) : Int) = l at *
    generalize ((lb y k : Nat) : Int) = l' at *
    generalize ((x % 1073741824 ^ k : Nat) : Int) = t at *
    generalize ((y % 1073741824 ^ k : Nat) : Int) = t' at *
    generalize ((1073741824 ^ k : Nat) : Int) = P at *
    have e3 : l - l' + 1073741824 * (q - q') = (l + 1073741824 * q) - (l' + 1073741824 * q') := by omega
    rw [e3, Int.mul_sub]
    omega
  · unfold bz
    rw [nd_sZ, nd_sZ]
    have e : ((1073741824 ^ (k + 1) : Nat) : Int) = ((1073741824 ^ k : Nat) : Int) * 1073741824 := by rw [Bs, Int.natCast_mul]; rfl
    rw [e]
    have e3 : ((x % 1073741824 ^ k : Nat) : Int) + ((1073741824 ^ k : Nat) : Int) * ((lb x k : Nat) : Int) - (((y % 1073741824 ^ k : Nat) : Int) + ((1073741824 ^ k : Nat) : Int) * ((lb y k : Nat) : Int)) = ((x % 1073741824 ^ k : Nat) : Int) - ((y % 1073741824 ^ k : Nat) : Int) + ((1073741824 ^ k : Nat) : Int) * (((lb x k : Nat) : Int) - ((lb y k : Nat) : Int)) := by
      rw [Int.mul_sub]; omega
    rw [e3]
    exact dzC hP
def bw (x y k : Nat) : Nat := if bz x y k = 0 then 0 else 1
theorem bw_z (x y k : Nat) : ((bw x y k : Nat) : Int) = - bz x y k := by
  have := bz_r x y k
  unfold bw
  split <;> omega
/-! halves, even, against -/
theorem or_nI (a b : Nat) : nI a ||| nI b = nI (a ||| b) := by
  apply Int32.toBitVec_inj.1
  show BitVec.ofNat 32 a ||| BitVec.ofNat 32 b = BitVec.ofNat 32 (a ||| b)
  apply BitVec.eq_of_getLsbD_eq
  intro i hi
  simp [hi]
theorem and1 {a : Nat} (ha : a < 2147483648) : nI a &&& 1 = nI (a % 2) := by
  have e : (nI a &&& 1).toInt = ((nI a).toBitVec &&& 1#32).toInt := rfl
  have h1 : ((nI a).toBitVec &&& 1#32).toNat = (nI a).toBitVec.toNat % 2 := by
    rw [BitVec.toNat_and]
    exact Nat.and_two_pow_sub_one_eq_mod _ 1
  have h2 : (nI a).toBitVec.toNat = a := by
    show (BitVec.ofNat 32 a).toNat = a
    rw [BitVec.toNat_ofNat]
    exact Nat.mod_eq_of_lt (by omega)
  refine z_nat ?_
  rw [e, BitVec.toInt_eq_toNat_cond, h1, h2]
  split <;> omega
theorem lb_mod2 (x : Nat) : lb x 0 % 2 = x % 2 := by
  unfold lb
  rw [Nat.pow_zero, Nat.div_one]
  omega
theorem lb_half (x k : Nat) : lb (x / 2) k = lb x k / 2 + lb x (k + 1) % 2 * 536870912 := by
  have e1 : x / 2 / 1073741824 ^ k = x / 1073741824 ^ k / 2 := by rw [Nat.div_div_eq_div_mul, Nat.div_div_eq_div_mul, Nat.mul_comm]
  have e2 : x / 1073741824 ^ (k + 1) = x / 1073741824 ^ k / 1073741824 := by rw [Bs, Nat.div_div_eq_div_mul]
  unfold lb
  rw [e1, e2]
  generalize x / 1073741824 ^ k = y
  omega
theorem half_or {a b : Nat} (ha : a < 536870912) : nI a ||| nI (b * 536870912) = nI (a + b * 536870912) := by
  rw [or_nI]
  have h := Nat.two_pow_add_eq_or_of_lt (i := 29) (b := a) (by exact ha) b
  rw [show (2 : Nat) ^ 29 = 536870912 from rfl] at h
  rw [Nat.or_comm, Nat.mul_comm b, ← h, Nat.add_comm]
