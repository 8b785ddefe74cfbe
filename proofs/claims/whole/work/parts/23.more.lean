/-! looks, parts, faults -/
theorem i_add (a b : Nat) : nI a + nI b = nI (a + b) := nI_add a b
theorem i_mul (a b : Nat) : nI a * nI b = nI (a * b) := (Int32.ofNat_mul a b).symm
theorem i_sub {a b : Nat} (h : b ≤ a) (ha : a < 2147483648) : nI a - nI b = nI (a - b) := by
  refine z_inj ?_
  rw [z_subc (by rw [z_nN ha, z_nN (by omega)]; omega) (by rw [z_nN ha, z_nN (by omega)]; omega), z_nN ha, z_nN (by omega), z_nN (by omega)]
  omega
theorem c_0 : (0 : Int32).toNatClampNeg = 0 := rfl
theorem c_1 : (1 : Int32).toNatClampNeg = 1 := rfl
theorem c_2 : (2 : Int32).toNatClampNeg = 2 := rfl
theorem c_4 : (4 : Int32).toNatClampNeg = 4 := rfl
theorem up4 (f g : Nat → Int32) (n o : Nat) (w x y z : Int32) (h : ∀ i, i < n → f i = g (o + i)) : ∀ i, i < n + 4 → upd (upd (upd (upd f n w) (n + 1) x) (n + 2) y) (n + 3) z i = upd (upd (upd (upd g (o + n) w) (o + n + 1) x) (o + n + 2) y) (o + n + 3) z (o + i) := by
  intro i hi
  have e3 : (o + i = o + n + 3) ↔ i = n + 3 := by omega
  have e2 : (o + i = o + n + 2) ↔ i = n + 2 := by omega
  have e1 : (o + i = o + n + 1) ↔ i = n + 1 := by omega
  have e0 : (o + i = o + n) ↔ i = n := by omega
  simp only [u_s, e3, e2, e1, e0]
  repeat' split
  all_goals first | rfl | exact h i (by omega)
theorem up3 (f g : Nat → Int32) (n o : Nat) (w x y : Int32) (h : ∀ i, i < n → f i = g (o + i)) : ∀ i, i < n + 3 → upd (upd (upd f n w) (n + 1) x) (n + 2) y i = upd (upd (upd g (o + n) w) (o + n + 1) x) (o + n + 2) y (o + i) := by
  intro i hi
  have e2 : (o + i = o + n + 2) ↔ i = n + 2 := by omega
  have e1 : (o + i = o + n + 1) ↔ i = n + 1 := by omega
  have e0 : (o + i = o + n) ↔ i = n := by omega
  simp only [u_s, e2, e1, e0]
  repeat' split
  all_goals first | rfl | exact h i (by omega)
def vLook (a1 a2 a3 a4 : Int32) : Prop := (0 ≤ a1.toInt ∧ a1.toInt ≤ 119) ∧ (0 ≤ a2.toInt ∧ a2.toInt ≤ 3) ∧ (-1 ≤ a3.toInt ∧ a3.toInt ≤ 3) ∧ 0 ≤ a4.toInt ∧ a4.toInt ≤ 2
theorem e_look5F {u : KS} {a1 a2 a3 a4 : Int32} (c : ¬ vLook a1 a2 a3 a4) : mX5_look u a1 a2 a3 a4 = some (-2, b5 u 0) := by
  unfold vLook at c
  unfold mX5_look
  simp only [e_isColor, e_isCut, bs, b_i2, e_bad5]
  repeat' split
  all_goals first | rfl | (exfalso; (simp only [z_lt, z_le, z_gt, z_ge, z_eq, zm1, zm2, Int32.reduceToInt] at *; omega))
theorem e_look6F {v : KS} {a1 a2 a3 a4 : Int32} (c : ¬ vLook a1 a2 a3 a4) : mX6_look v a1 a2 a3 a4 = some (-2, b6 v 0) := by
  unfold vLook at c
  unfold mX6_look
  simp only [e_inc a1 0 119 (l := 0) (h := 119) rfl rfl, e_inc a2 0 3 (l := 0) (h := 3) rfl rfl, e_inc a3 (-1) 3 (l := -1) (h := 3) rfl rfl, e_inc a4 0 2 (l := 0) (h := 2) rfl rfl, bs, b_i2, e_bad6]
  by_cases c1 : 0 ≤ a1.toInt ∧ a1.toInt ≤ 119
  · rw [if_pos c1]
    by_cases c2 : 0 ≤ a2.toInt ∧ a2.toInt ≤ 3
    · rw [if_pos c2]
      by_cases c3 : -1 ≤ a3.toInt ∧ a3.toInt ≤ 3
      · rw [if_pos c3, if_neg (by omega)]
      · rw [if_neg c3]
    · rw [if_neg c2]
  · rw [if_neg c1]
theorem e_look5T {u : KS} {a1 a2 a3 a4 : Int32} {K : Nat} (hK : gI u 3 = nI K) (hK8 : K ≤ 8) (c : vLook a1 a2 a3 a4) : mX5_look u a1 a2 a3 a4 = some (if K = 8 then (-4, b5 u 2) else (nI K, sR (sI (sI u 1 1) 3 (nI (K + 1))) 5 (upd (upd (upd (upd (gR u 5) (4 * K) a1) (4 * K + 1) a2) (4 * K + 2) a3) (4 * K + 3) a4))) := by
  unfold vLook at c
  unfold mX5_look
  simp only [e_isColor, e_isCut, bs, b_i2, e_full5]
  rw [if_neg (by (simp only [z_lt, z_le, z_gt, z_ge, z_eq, zm1, zm2, Int32.reduceToInt] at *; omega)), if_neg (by (simp only [z_lt, z_le, z_gt, z_ge, z_eq, zm1, zm2, Int32.reduceToInt] at *; omega)), if_pos c.2.1, if_pos c.2.2.1, if_neg (by (simp only [z_lt, z_le, z_gt, z_ge, z_eq, zm1, zm2, Int32.reduceToInt] at *; omega)), if_pos (by (simp only [z_lt, z_le, z_gt, z_ge, z_eq, zm1, zm2, Int32.reduceToInt] at *; omega))]
  have e8 : (nI K < 8) ↔ K < 8 := by rw [show (8 : Int32) = nI 8 from rfl]; exact nI_ltI (by omega) (by omega)
  have q0 : nI K * 4 = nI (4 * K) := by rw [show (4 : Int32) = nI 4 from rfl, i_mul, Nat.mul_comm]
  rw [hK, q0]
  by_cases h : K = 8
  · rw [if_neg (fun q => by have := e8.mp q; omega), if_pos h]
  · rw [if_pos (e8.mpr (by omega)), if_neg h, e_setN (by decide) _ _ (by omega), bs, show (1 : Int32) = nI 1 from rfl, show (2 : Int32) = nI 2 from rfl, show (3 : Int32) = nI 3 from rfl, i_add, i_add, i_add, i_add, e_setN (by decide) _ _ (by omega), bs, e_setN (by decide) _ _ (by omega), bs, e_setN (by decide) _ _ (by omega), bs]
theorem e_look6T {v : KS} {a1 a2 a3 a4 : Int32} {K : Nat} (hK : gR v 0 1 = nI K) (hK8 : K ≤ 8) (c : vLook a1 a2 a3 a4) : mX6_look v a1 a2 a3 a4 = some (if K = 8 then (-4, b6 v 2) else (nI K, sR v 0 (upd (upd (upd (upd (upd (gR v 0) (20 + 4 * K) a1) (20 + 4 * K + 1) a2) (20 + 4 * K + 2) a3) (20 + 4 * K + 3) a4) 1 (nI (K + 1))))) := by
  unfold vLook at c
  unfold mX6_look
  simp only [e_inc a1 0 119 (l := 0) (h := 119) rfl rfl, e_inc a2 0 3 (l := 0) (h := 3) rfl rfl, e_inc a3 (-1) 3 (l := -1) (h := 3) rfl rfl, e_inc a4 0 2 (l := 0) (h := 2) rfl rfl, bs, b_i2, e_full6, c_1, hK]
  rw [if_pos c.1, if_pos c.2.1, if_pos c.2.2.1, if_pos c.2.2.2]
  have e8 : (nI K = 8) ↔ K = 8 := by rw [show (8 : Int32) = nI 8 from rfl]; exact nI_eq (by omega) (by omega)
  by_cases h : K = 8
  · rw [if_pos (e8.mpr h), if_pos h]
  · rw [if_neg (fun q => h (e8.mp q)), if_neg h]
    have q0 : 20 + 4 * nI K = nI (20 + 4 * K) := by rw [show (4 : Int32) = nI 4 from rfl, i_mul, show (20 : Int32) = nI 20 from rfl, i_add]
    have q1 : nI (20 + 4 * K) + 1 = nI (20 + 4 * K + 1) := i_add _ 1
    have q2 : nI (20 + 4 * K) + 2 = nI (20 + 4 * K + 2) := i_add _ 2
    have q3 : nI (20 + 4 * K) + 3 = nI (20 + 4 * K + 3) := i_add _ 3
    rw [q0, q1, q2, q3, gd_t (i_k (by omega) (by decide)), gd_t (i_k (by omega) (by decide)), gd_t (i_k (by omega) (by decide)), gd_t (i_k (by omega) (by decide)), i_cl (by omega), i_cl (by omega), i_cl (by omega), i_cl (by omega)]
    rw [u_is, u_no _ _ _ (show 1 ≠ 20 + 4 * K + 3 by omega), u_no _ _ _ (show 1 ≠ 20 + 4 * K + 2 by omega), u_no _ _ _ (show 1 ≠ 20 + 4 * K + 1 by omega), u_no _ _ _ (show 1 ≠ 20 + 4 * K by omega), hK, i_s, show (1 : Int32) = nI 1 from rfl, i_sub (by omega) (by omega), Nat.add_sub_cancel]
theorem lm_look : LM_look Rel := by
  intro u k0 k1 v a1 a2 a3 a4 hR
  by_cases c : vLook a1 a2 a3 a4
  · have hR' := hR
    obtain ⟨L, K, P, ⟨hT, hS, hp, hm, hl, hq⟩, h0, h1, hf, hF, hC⟩ := hR
    have e5 := e_look5T (u := u) hl.2.1 hl.1 c
    have e6 := e_look6T (v := v) hl.2.2.1 hl.1 c
    have hK8 := hl.1
    by_cases h : K = 8
    · rw [if_pos h] at e5 e6
      exact lm_b hR' (j := 2) (by decide) (-4) e5 e6
    · rw [if_neg h] at e5 e6
      unfold vLook at c
      generalize hb : upd (upd (upd (upd (upd (gR v 0) (20 + 4 * K) a1) (20 + 4 * K + 1) a2) (20 + 4 * K + 2) a3) (20 + 4 * K + 3) a4) 1 (nI (K + 1)) = b' at e6
      have n1 : b' 1 = nI (K + 1) := by rw [← hb, u_is]
      have no : ∀ j, j ≠ 1 → j < 20 ∨ 20 + 4 * K + 4 ≤ j → b' j = gR v 0 j := fun j h1 h2 => by
        rw [← hb, u_no _ _ _ h1, u_no _ _ _ (by omega), u_no _ _ _ (by omega), u_no _ _ _ (by omega), u_no _ _ _ (by omega)]
      have nl : ∀ i, i < 4 * K + 4 → upd (upd (upd (upd (gR u 5) (4 * K) a1) (4 * K + 1) a2) (4 * K + 2) a3) (4 * K + 3) a4 i = b' (20 + i) := fun i hi => by
        rw [up4 (gR u 5) (gR v 0) (4 * K) 20 a1 a2 a3 a4 hl.2.2.2.1 i hi, ← hb, u_no (1) _ _ (by omega)]
      have n4 : ∀ i, i < 4 * K → b' (20 + i) = gR v 0 (20 + i) := fun i hi => by
        rw [← nl i (by omega), u_no _ _ _ (by omega), u_no _ _ _ (by omega), u_no _ _ _ (by omega), u_no _ _ _ (by omega), hl.2.2.2.1 i hi]
      refine ⟨_, _, _, e5, e6, ⟨L, K + 1, P, ⟨Kt_cg hT rfl rfl (no 0 (by omega) (by omega)) (fun i hi => no _ (by omega) (by omega)), Ks_cg hS rfl (fun i hi => no _ (by omega) (by omega)), Kp_cg hp rfl (fun i hi => no _ (by omega) (by omega)), Km_cg hm rfl (fun i hi => no _ (by omega) (by omega)), ⟨by omega, rfl, n1, fun i hi => nl i (by omega), fun i hi => ?_⟩, Kq_cg hq rfl rfl (no 2 (by omega) (by omega)) (fun i hi => no _ (by omega) (by have := hq.1; omega))⟩, h0, h1, hf, hF, ?_, Or.inl rfl⟩, rfl⟩
      · show (0 ≤ (b' (20 + 4 * i)).toInt ∧ (b' (20 + 4 * i)).toInt < 120) ∧ (0 ≤ (b' (20 + (4 * i + 1))).toInt ∧ (b' (20 + (4 * i + 1))).toInt ≤ 3) ∧ (-1 ≤ (b' (20 + (4 * i + 2))).toInt ∧ (b' (20 + (4 * i + 2))).toInt ≤ 3) ∧ 0 ≤ (b' (20 + (4 * i + 3))).toInt ∧ (b' (20 + (4 * i + 3))).toInt ≤ 2
        by_cases hi2 : i = K
        · subst hi2
          rw [← nl (4 * i) (by omega), ← nl (4 * i + 1) (by omega), ← nl (4 * i + 2) (by omega), ← nl (4 * i + 3) (by omega)]
          rw [u_is, u_no (4 * i + 3) _ _ (show 4 * i ≠ 4 * i + 3 by omega), u_no (4 * i + 2) _ _ (show 4 * i ≠ 4 * i + 2 by omega), u_no (4 * i + 1) _ _ (show 4 * i ≠ 4 * i + 1 by omega), u_is, u_no (4 * i + 3) _ _ (show 4 * i + 1 ≠ 4 * i + 3 by omega), u_no (4 * i + 2) _ _ (show 4 * i + 1 ≠ 4 * i + 2 by omega), u_is, u_no (4 * i + 3) _ _ (show 4 * i + 2 ≠ 4 * i + 3 by omega), u_is]
          omega
        · rw [n4 (4 * i) (by omega), n4 (4 * i + 1) (by omega), n4 (4 * i + 2) (by omega), n4 (4 * i + 3) (by omega)]
          exact hl.2.2.2.2 i (by omega)
      · show _ ∨ (_ ∧ DayOk _ (tx b') L (nat (b' 4)))
        have e1 : ∀ i, i < L → tx b' i = tx (gR v 0) i := fun i hi => no _ (by omega) (by omega)
        rw [no 4 (by omega) (by omega), show tx b' = tx (gR v 0) from funext fun i => no _ (by omega) (by omega)]
        exact hC.1
  · exact lm_b hR (j := 0) (by decide) (-2) (e_look5F c) (e_look6F c)
