/-! looks, parts, faults -/
theorem i_add (a b : Nat) : nI a + nI b = nI (a + b) := nI_add a b
theorem i_mul (a b : Nat) : nI a * nI b = nI (a * b) := (Int32.ofNat_mul a b).symm
theorem i_sub {a b : Nat} (h : b ≤ a) (ha : a < 2147483648) : nI a - nI b = nI (a - b) := by
  refine z_inj ?_
  rw [z_subc (by rw [z_nN ha, z_nN (by omega)]; omega) (by rw [z_nN ha, z_nN (by omega)]; omega), z_nN ha, z_nN (by omega), z_nN (by omega)]
  omega
theorem c_0 : (0 : Int32).toNatClampNeg = 0 := rfl
theorem c_1 : (1 : Int32).toNatClampNeg = 1 := rfl
theorem c_2 : (2 : Int32).toNatClampNeg = 2 := rfl
theorem c_4 : (4 : Int32).toNatClampNeg = 4 := rfl
theorem up4 (f g : Nat → Int32) (n o : Nat) (w x y z : Int32) (h : ∀ i, i < n → f i = g (o + i)) : ∀ i, i < n + 4 → upd (upd (upd (upd f n w) (n + 1) x) (n + 2) y) (n + 3) z i = upd (upd (upd (upd g (o + n) w) (o + n + 1) x) (o + n + 2) y) (o + n + 3) z (o + i) := by
  intro i hi
  have e3 : (o + i = o + n + 3) ↔ i = n + 3 := by omega
  have e2 : (o + i = o + n + 2) ↔ i = n + 2 := by omega
  have e1 : (o + i = o + n + 1) ↔ i = n + 1 := by omega
  have e0 : (o + i = o + n) ↔ i = n := by omega
  simp only [u_s, e3, e2, e1, e0]
  repeat' split
  all_goals first | rfl | exact h i (by omega)
theorem up3 (f g : Nat → Int32) (n o : Nat) (w x y : Int32) (h : ∀ i, i < n → f i = g (o + i)) : ∀ i, i < n + 3 → upd (upd (upd f n w) (n + 1) x) (n + 2) y i = upd (upd (upd g (o + n) w) (o + n + 1) x) (o + n + 2) y (o + i) := by
  intro i hi
  have e2 : (o + i = o + n + 2) ↔ i = n + 2 := by omega
  have e1 : (o + i = o + n + 1) ↔ i = n + 1 := by omega
  have e0 : (o + i = o + n) ↔ i = n := by omega
  simp only [u_s, e2, e1, e0]
  repeat' split
  all_goals first | rfl | exact h i (by omega)
def vLook (a1 a2 a3 a4 : Int32) : Prop := (0 ≤ a1.toInt ∧ a1.toInt ≤ 119) ∧ (0 ≤ a2.toInt ∧ a2.toInt ≤ 3) ∧ (-1 ≤ a3.toInt ∧ a3.toInt ≤ 3) ∧ 0 ≤ a4.toInt ∧ a4.toInt ≤ 2
theorem e_look5F {u : KS} {a1 a2 a3 a4 : Int32} (c : ¬ vLook a1 a2 a3 a4) : mX5_look u a1 a2 a3 a4 = some (-2, b5 u 0) := by
  unfold vLook at c
  unfold mX5_look
  simp only [e_isColor, e_isCut, bs, b_i2, e_bad5]
  repeat' split
  all_goals first | rfl | (exfalso; (simp only [z_lt, z_le, z_gt, z_ge, z_eq, zm1, zm2, Int32.reduceToInt] at *; omega))
theorem e_look5T {u : KS} {a1 a2 a3 a4 : Int32} {K : Nat} (hK : gI u 3 = nI K) (hK8 : K ≤ 8) (c : vLook a1 a2 a3 a4) : mX5_look u a1 a2 a3 a4 = some (if K = 8 then (-4, b5 u 2) else (nI K, sR (sI (sI u 1 1) 3 (nI (K + 1))) 5 (upd (upd (upd (upd (gR u 5) (4 * K) a1) (4 * K + 1) a2) (4 * K + 2) a3) (4 * K + 3) a4))) := by
  unfold vLook at c
  unfold mX5_look
  simp only [e_isColor, e_isCut, bs, b_i2, e_full5]
  rw [if_neg (by (simp only [z_lt, z_le, z_gt, z_ge, z_eq, zm1, zm2, Int32.reduceToInt] at *; omega)), if_neg (by (simp only [z_lt, z_le, z_gt, z_ge, z_eq, zm1, zm2, Int32.reduceToInt] at *; omega)), if_pos c.2.1, if_pos c.2.2.1, if_neg (by (simp only [z_lt, z_le, z_gt, z_ge, z_eq, zm1, zm2, Int32.reduceToInt] at *; omega)), if_pos (by (simp only [z_lt, z_le, z_gt, z_ge, z_eq, zm1, zm2, Int32.reduceToInt] at *; omega))]
  have e8 : (nI K < 8) ↔ K < 8 := by rw [show (8 : Int32) = nI 8 from rfl]; exact nI_ltI (by omega) (by omega)
  have q0 : nI K * 4 = nI (4 * K) := by rw [show (4 : Int32) = nI 4 from rfl, i_mul, Nat.mul_comm]
  rw [hK, q0]
  by_cases h : K = 8
  · rw [if_neg (fun q => by have := e8.mp q; omega), if_pos h]
  · rw [if_pos (e8.mpr (by omega)), if_neg h, e_setN (by decide) _ _ (by omega), bs, show (1 : Int32) = nI 1 from rfl, show (2 : Int32) = nI 2 from rfl, show (3 : Int32) = nI 3 from rfl, i_add, i_add, i_add, i_add, e_setN (by decide) _ _ (by omega), bs, e_setN (by decide) _ _ (by omega), bs, e_setN (by decide) _ _ (by omega), bs]
