/-! division by an odd number, the lowest limbs first -/
theorem nw_step {a τ M s t2 m1 m2 : Int} (hM : M * M ∣ 4294967296) (h : M ∣ a * τ - 1) (hs : s = 2 - a * τ + 4294967296 * m1) (ht : t2 = τ * s + 4294967296 * m2) : M * M ∣ a * t2 - 1 := by
  obtain ⟨c, hc⟩ := h
  obtain ⟨d, hd⟩ := hM
  refine ⟨-(c * c) + d * (a * (τ * m1 + m2)), ?_⟩
  have e1 : a * τ = M * c + 1 := by omega
  have e2 : a * t2 = a * τ * (2 - a * τ) + 4294967296 * (a * (τ * m1 + m2)) := by
    rw [ht, hs, Int.mul_add, Int.mul_add, Int.mul_add, Int.mul_add, Int.mul_add, Int.mul_assoc, Int.add_assoc]
    congr 1
    have q1 : a * (τ * (4294967296 * m1)) = 4294967296 * (a * (τ * m1)) := by
      rw [Int.mul_left_comm τ, Int.mul_left_comm a]
    have q2 : a * (4294967296 * m2) = 4294967296 * (a * m2) := Int.mul_left_comm _ _ _
    rw [q1, q2]
  rw [e2, e1, hd]
  generalize a * (τ * m1 + m2) = W
  have e3 : (M * c + 1) * (2 - (M * c + 1)) - 1 = -(M * M * (c * c)) := by
    have : M * M * (c * c) = M * c * (M * c) := by rw [Int.mul_assoc, Int.mul_left_comm M c c, ← Int.mul_assoc M c]
    rw [this]
    generalize M * c = z
    rw [show (2 : Int) - (z + 1) = 1 - z by omega, Int.add_mul, Int.mul_sub]
    omega
  have e4 : M * M * -(c * c) = -(M * M * (c * c)) := Int.mul_neg _ _
  have e5 : M * M * (-(c * c) + d * W) = M * M * -(c * c) + M * M * d * W := by rw [Int.mul_add, Int.mul_assoc (M * M)]
  rw [e5, e4]
  omega
theorem wrap32 (x : Int) : ∃ m, (x + 2147483648) % 4294967296 - 2147483648 = x + 4294967296 * m := ⟨-((x + 2147483648) / 4294967296), by omega⟩
theorem nw_i32 {a : Nat} {t : Int32} {M : Int} (ha : a < 2147483648) (hM : M * M ∣ 4294967296) (h : M ∣ (a : Int) * t.toInt - 1) : M * M ∣ (a : Int) * (t * (2 - nI a * t)).toInt - 1 := by
  obtain ⟨m0, h0⟩ := wrap32 ((nI a).toInt * t.toInt)
  obtain ⟨m1, h1⟩ := wrap32 ((2 : Int32).toInt - (nI a * t).toInt)
  obtain ⟨m2, h2⟩ := wrap32 (t.toInt * (2 - nI a * t).toInt)
  have e0 : (nI a * t).toInt = (a : Int) * t.toInt + 4294967296 * m0 := by rw [z_mul, h0, z_nN ha]
  have e1 : (2 - nI a * t).toInt = 2 - (a : Int) * t.toInt + 4294967296 * (m1 - m0) := by
    rw [z_sub, h1, e0, show (2 : Int32).toInt = 2 from rfl]; omega
  have e2 : (t * (2 - nI a * t)).toInt = t.toInt * (2 - nI a * t).toInt + 4294967296 * m2 := by rw [z_mul, h2]
  exact nw_step hM h e1 e2
theorem lb_sh (Z i k : Nat) : lb (1073741824 ^ i * Z) (i + k) = lb Z k := by
  unfold lb
  rw [Nat.pow_add, Nat.mul_div_mul_left _ _ (Bp i)]
theorem lb_lo {Z i j : Nat} (h : j < i) : lb (1073741824 ^ i * Z) j = 0 := by
  unfold lb
  have e : 1073741824 ^ i = 1073741824 ^ j * (1073741824 * 1073741824 ^ (i - j - 1)) := by
    rw [← Nat.pow_succ', ← Nat.pow_add]
    congr 1
    omega
  rw [e, Nat.mul_assoc, Nat.mul_div_cancel_left _ (Bp j), Nat.mul_assoc]
  exact Nat.mul_mod_right _ _
/-- the digit: what the lowest limb of T y times the inverse comes to -/
theorem q_dig {T y : Nat} {t : Int32} (ht : (4294967296 : Int) ∣ (lb T 0 : Int) * t.toInt - 1) : (nI (lb (T * y) 0) * t) &&& 1073741823 = nI (y % 1073741824) := by
  have hl := lb_lt (T * y) 0
  obtain ⟨m0, h0⟩ := wrap32 ((nI (lb (T * y) 0)).toInt * t.toInt)
  obtain ⟨c, hc⟩ := ht
  refine z_nat ?_
  rw [mi32, z_mul, h0, z_nN (by omega)]
  have e1 : (lb (T * y) 0 : Int) = (T : Int) * (y : Int) - 1073741824 * ((T * y / 1073741824 : Nat) : Int) := by
    have : lb (T * y) 0 = T * y % 1073741824 := by unfold lb; rw [Nat.pow_zero, Nat.div_one]
    rw [this, ← Int.natCast_mul]
    omega
  have e2 : (T : Int) = (lb T 0 : Int) + 1073741824 * ((T / 1073741824 : Nat) : Int) := by
    have : lb T 0 = T % 1073741824 := by unfold lb; rw [Nat.pow_zero, Nat.div_one]
    rw [this]
    omega
  generalize ((T * y / 1073741824 : Nat) : Int) = z at e1
  generalize ((T / 1073741824 : Nat) : Int) = T' at e2
  generalize (lb T 0 : Int) = T0 at *
  generalize t.toInt = τ at *
  have e3 : (lb (T * y) 0 : Int) * τ = (y : Int) + 1073741824 * ((y : Int) * (4 * c) + T' * y * τ - z * τ) := by
    rw [e1, e2, Int.sub_mul, Int.add_mul, Int.add_mul]
    have p1 : T0 * (y : Int) * τ = (y : Int) * (T0 * τ) := by rw [Int.mul_comm T0, Int.mul_assoc]
    have p2 : T0 * τ = 1 + 4294967296 * c := by omega
    have p3 : (y : Int) * (1 + 4294967296 * c) = y + 4294967296 * (y * c) := by rw [Int.mul_add, Int.mul_one, Int.mul_left_comm]
    have p4 : (y : Int) * (4 * c) = 4 * (y * c) := Int.mul_left_comm _ _ _
    have p5 : 1073741824 * T' * (y : Int) * τ = 1073741824 * (T' * y * τ) := by rw [Int.mul_assoc, Int.mul_assoc, Int.mul_assoc]
    have p6 : 1073741824 * z * τ = 1073741824 * (z * τ) := Int.mul_assoc _ _ _
    rw [p1, p2, p3, p4, p5, p6]
    omega
  rw [e3]
  omega
def cz (Y T q k : Nat) : Int := (((Y % 1073741824 ^ k : Nat) : Int) - (q : Int) * ((T % 1073741824 ^ k : Nat) : Int)) / ((1073741824 ^ k : Nat) : Int)
theorem cz_r (Y T q k : Nat) : -(q : Int) ≤ cz Y T q k ∧ cz Y T q k ≤ 0 := by
  have hP := Bp k
  have h1 := Nat.mod_lt Y hP
  have h2 := Nat.mod_lt T hP
  have h3 : (q : Int) * ((T % 1073741824 ^ k : Nat) : Int) ≤ (q : Int) * ((1073741824 ^ k : Nat) : Int) := Int.mul_le_mul_of_nonneg_left (by omega) (by omega)
  have h4 : (0 : Int) ≤ (q : Int) * ((T % 1073741824 ^ k : Nat) : Int) := Int.mul_nonneg (by omega) (by omega)
  unfold cz
  generalize (q : Int) * ((T % 1073741824 ^ k : Nat) : Int) = z at *
  generalize Y % 1073741824 ^ k = a at *
  generalize 1073741824 ^ k = P at *
  constructor
  · refine (Int.le_ediv_iff_mul_le (by omega)).mpr ?_
    rw [Int.neg_mul]
    omega
  · have := (Int.ediv_lt_iff_lt_mul (a := (a : Int) - z) (b := 1) (c := (P : Int)) (by omega)).mpr (by omega)
    omega
theorem lb_subq {Y T q : Nat} (h : q * T ≤ Y) (k : Nat) : ((lb (Y - q * T) k : Nat) : Int) = ((lb Y k : Int) - (q : Int) * (lb T k : Int) + cz Y T q k) % 1073741824 ∧ cz Y T q (k + 1) = ((lb Y k : Int) - (q : Int) * (lb T k : Int) + cz Y T q k) / 1073741824 := by
  have hP : (0 : Int) < ((1073741824 ^ k : Nat) : Int) := by have := Bp k; omega
  constructor
  · rw [lbZ]
    refine dzN (M := ((Y / 1073741824 ^ (k + 1) : Nat) : Int) - (q : Int) * ((T / 1073741824 ^ (k + 1) : Nat) : Int)) hP ?_
    rw [Int.ofNat_sub h, Int.natCast_mul]
    have e1 := lb_mulZ Y k
    have e2 := lb_mulZ T k
    generalize ((Y / 1073741824 ^ (k + 1) : Nat) : Int) = u at *
    generalize ((T / 1073741824 ^ (k + 1) : Nat) : Int) = u' at *
    generalize ((lb Y k : Nat) : Int) = l at *
    generalize ((lb T k : Nat) : Int) = l' at *
    generalize ((Y % 1073741824 ^ k : Nat) : Int) = t at *
    generalize ((T % 1073741824 ^ k : Nat) : Int) = t' at *
    generalize ((1073741824 ^ k : Nat) : Int) = P at *
    have e3 : l - (q : Int) * l' + 1073741824 * (u - (q : Int) * u') = (l + 1073741824 * u) - (q : Int) * (l' + 1073741824 * u') := by
      rw [Int.mul_add, Int.mul_left_comm]; omega
    have e4 : P * ((q : Int) * (l' + 1073741824 * u')) = (q : Int) * (P * (l' + 1073741824 * u')) := Int.mul_left_comm _ _ _
    rw [e3, Int.mul_sub, e4, e1, e2, Int.mul_add (q : Int) t']
    omega
  · unfold cz
    rw [nd_sZ, nd_sZ]
    have e : ((1073741824 ^ (k + 1) : Nat) : Int) = ((1073741824 ^ k : Nat) : Int) * 1073741824 := by rw [Bs, Int.natCast_mul]; rfl
    rw [e]
    have e3 : ((Y % 1073741824 ^ k : Nat) : Int) + ((1073741824 ^ k : Nat) : Int) * ((lb Y k : Nat) : Int) - (q : Int) * (((T % 1073741824 ^ k : Nat) : Int) + ((1073741824 ^ k : Nat) : Int) * ((lb T k : Nat) : Int)) = ((Y % 1073741824 ^ k : Nat) : Int) - (q : Int) * ((T % 1073741824 ^ k : Nat) : Int) + ((1073741824 ^ k : Nat) : Int) * (((lb Y k : Nat) : Int) - (q : Int) * ((lb T k : Nat) : Int)) := by
      rw [Int.mul_add, Int.mul_sub, Int.mul_left_comm (q : Int)]; omega
    rw [e3]
    exact dzC hP
def Rv (T Q i : Nat) : Nat := 1073741824 ^ i * (T * (Q / 1073741824 ^ i))
theorem Rv_s (T Q i : Nat) : Rv T Q (i + 1) = 1073741824 ^ i * (T * (Q / 1073741824 ^ i) - Q / 1073741824 ^ i % 1073741824 * T) ∧ Q / 1073741824 ^ i % 1073741824 * T ≤ T * (Q / 1073741824 ^ i) := by
  have e : Q / 1073741824 ^ (i + 1) = Q / 1073741824 ^ i / 1073741824 := by rw [Bs, Nat.div_div_eq_div_mul]
  unfold Rv
  rw [e, Bs]
  generalize Q / 1073741824 ^ i = y
  have h1 := Nat.mod_add_div y 1073741824
  constructor
  · rw [Nat.mul_comm (y % 1073741824), ← Nat.mul_sub, Nat.mul_assoc]
    congr 1
    rw [Nat.mul_left_comm]
    congr 1
    omega
  · rw [Nat.mul_comm]
    exact Nat.mul_le_mul_left T (Nat.mod_le _ _)
theorem Rv_le (T Q i : Nat) : Rv T Q i ≤ T * Q := by
  unfold Rv
  rw [Nat.mul_left_comm]
  exact Nat.mul_le_mul_left T (Nat.mul_div_le _ _)
def LG (r : Nat) (v v' : KS) : Prop := (∀ k, gI v' k = gI v k) ∧ (∀ k, k ≠ 4 ∧ k ≠ 5 → gR v' k = gR v k) ∧ (∀ j, (j < 12 * r ∨ 12 * r + 12 ≤ j) ∧ (j < 48 ∨ 60 ≤ j) → gR v' 4 j = gR v 4 j) ∧ (∀ j, j ≠ r → gR v' 5 j = gR v 5 j) ∧ gL v' = gL v ∧ gA v' = gA v ∧ gO v' = gO v
theorem RH.lg {v v' : KS} {q r y : Nat} (h : RH v q y) (l : LG r v v') (hn : q ≠ r) (h4 : q ≠ 4) : RH v' q y := by
  obtain ⟨h1, h2, w, h3, h5⟩ := h
  exact ⟨h1, fun k hk => (l.2.2.1 _ (by omega)).trans (h2 k hk), w, (l.2.2.2.1 q hn).trans h3, h5⟩
