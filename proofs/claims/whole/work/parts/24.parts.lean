theorem wL_cg {D : List (Nat × Nat)} {f thin rgt snd : Nat} {pr pr' : Nat → Nat} {lk lk' : Nat → Int} {K : Nat} (hp : ∀ i, i < 7 → pr' i = pr i) (hl : ∀ i, i < 4 * K → lk' i = lk i) (g : Nat) : ∀ k, k ≤ K → wL D f thin rgt snd pr' lk' g k = wL D f thin rgt snd pr lk g k := by
  have hw : ∀ a, a < 21 → wf pr' a = wf pr a := fun a ha => by unfold wf; rw [hp _ (by omega)]
  intro k
  induction k with
  | zero =>
    intro _
    show wB snd pr' g = wB snd pr g
    unfold wB
    rw [hw _ (by omega), hw _ (by omega), hw _ (by omega)]
  | succ k ih =>
    intro hk
    unfold wL
    rw [ih (by omega), hl (4 * k) (by omega), hl (4 * k + 1) (by omega), hl (4 * k + 2) (by omega), hl (4 * k + 3) (by omega)]
theorem GsOk_cg {u u' : KS} {D : List (Nat × Nat)} {f thin rgt snd : Nat} {pr pr' : Nat → Nat} {lk lk' : Nat → Int} {K : Nat} (h : GsOk u D f thin rgt snd pr lk K) (h1 : gA u' 0 = gA u 0) (h2 : gL u' 0 = gL u 0) (hp : ∀ i, i < 7 → pr' i = pr i) (hl : ∀ i, i < 4 * K → lk' i = lk i) : GsOk u' D f thin rgt snd pr' lk' K := by
  have e : (fun g => wL D f thin rgt snd pr' lk' g K) = (fun g => wL D f thin rgt snd pr lk g K) := funext fun g => wL_cg hp hl g K (Nat.le_refl _)
  refine ⟨fun g hg => ?_, ?_⟩
  · rw [h1, wL_cg hp hl g K (Nat.le_refl _)]; exact h.1 g hg
  · rw [h2, e]; exact h.2
def vPart (a1 a2 a3 : Int32) : Prop := (1 ≤ a1.toInt ∧ a1.toInt ≤ 99) ∧ (1 ≤ a2.toInt ∧ a2.toInt ≤ 99) ∧ 0 ≤ a3.toInt ∧ a3.toInt ≤ 10
theorem e_part5F {u : KS} {a1 a2 a3 : Int32} (c : ¬ vPart a1 a2 a3) : mX5_part u a1 a2 a3 = some (-2, b5 u 0) := by
  unfold vPart at c
  unfold mX5_part
  simp only [bs, e_bad5]
  repeat' split
  all_goals first | rfl | (exfalso; (simp only [z_lt, z_le, z_gt, z_ge, z_eq, zm1, zm2, Int32.reduceToInt] at *; omega))
theorem e_part6F {v : KS} {a1 a2 a3 : Int32} (c : ¬ vPart a1 a2 a3) : mX6_part v a1 a2 a3 = some (-2, b6 v 0) := by
  unfold vPart at c
  unfold mX6_part
  simp only [e_inc a1 1 99 (l := 1) (h := 99) rfl rfl, e_inc a2 1 99 (l := 1) (h := 99) rfl rfl, e_inc a3 0 10 (l := 0) (h := 10) rfl rfl, bs, b_i2, e_bad6]
  by_cases c1 : 1 ≤ a1.toInt ∧ a1.toInt ≤ 99
  · rw [if_pos c1]
    by_cases c2 : 1 ≤ a2.toInt ∧ a2.toInt ≤ 99
    · rw [if_pos c2, if_neg (by omega)]
    · rw [if_neg c2]
  · rw [if_neg c1]
theorem e_part5T {u : KS} {a1 a2 a3 : Int32} {K : Nat} (hK : gI u 4 = nI K) (hK8 : K ≤ 6) (c : vPart a1 a2 a3) : mX5_part u a1 a2 a3 = some (if K = 6 then (-4, b5 u 2) else (nI K, sR (sI u 4 (nI (K + 1))) 6 (upd (upd (upd (gR u 6) (3 * K) a1) (3 * K + 1) a2) (3 * K + 2) a3))) := by
  unfold vPart at c
  unfold mX5_part
  simp only [bs, e_full5]
  rw [if_neg (by (simp only [z_lt, z_le, z_gt, z_ge, z_eq, zm1, zm2, Int32.reduceToInt] at *; omega)), if_neg (by (simp only [z_lt, z_le, z_gt, z_ge, z_eq, zm1, zm2, Int32.reduceToInt] at *; omega)), if_neg (by (simp only [z_lt, z_le, z_gt, z_ge, z_eq, zm1, zm2, Int32.reduceToInt] at *; omega)), if_neg (by (simp only [z_lt, z_le, z_gt, z_ge, z_eq, zm1, zm2, Int32.reduceToInt] at *; omega)), if_neg (by (simp only [z_lt, z_le, z_gt, z_ge, z_eq, zm1, zm2, Int32.reduceToInt] at *; omega)), if_pos (by (simp only [z_lt, z_le, z_gt, z_ge, z_eq, zm1, zm2, Int32.reduceToInt] at *; omega))]
  have e8 : (nI K < 6) ↔ K < 6 := by rw [show (6 : Int32) = nI 6 from rfl]; exact nI_ltI (by omega) (by omega)
  have q0 : nI K * 3 = nI (3 * K) := by rw [show (3 : Int32) = nI 3 from rfl, i_mul, Nat.mul_comm]
  rw [hK, q0]
  by_cases h : K = 6
  · rw [if_neg (fun q => by have := e8.mp q; omega), if_pos h]
  · rw [if_pos (e8.mpr (by omega)), if_neg h, e_setN (by decide) _ _ (by omega), bs, show (1 : Int32) = nI 1 from rfl, show (2 : Int32) = nI 2 from rfl, i_add, i_add, i_add, e_setN (by decide) _ _ (by omega), bs, e_setN (by decide) _ _ (by omega), bs]
theorem e_part6T {v : KS} {a1 a2 a3 : Int32} {K : Nat} (hK : gR v 0 2 = nI K) (hK8 : K ≤ 6) (c : vPart a1 a2 a3) : mX6_part v a1 a2 a3 = some (if K = 6 then (-4, b6 v 2) else (nI K, sR v 0 (upd (upd (upd (upd (gR v 0) (60 + 3 * K) a1) (60 + 3 * K + 1) a2) (60 + 3 * K + 2) a3) 2 (nI (K + 1))))) := by
  unfold vPart at c
  unfold mX6_part
  simp only [e_inc a1 1 99 (l := 1) (h := 99) rfl rfl, e_inc a2 1 99 (l := 1) (h := 99) rfl rfl, e_inc a3 0 10 (l := 0) (h := 10) rfl rfl, bs, b_i2, e_full6, c_2, hK]
  rw [if_pos c.1, if_pos c.2.1, if_pos c.2.2]
  have e8 : (nI K = 6) ↔ K = 6 := by rw [show (6 : Int32) = nI 6 from rfl]; exact nI_eq (by omega) (by omega)
  by_cases h : K = 6
  · rw [if_pos (e8.mpr h), if_pos h]
  · rw [if_neg (fun q => h (e8.mp q)), if_neg h]
    have q0 : 60 + 3 * nI K = nI (60 + 3 * K) := by rw [show (3 : Int32) = nI 3 from rfl, i_mul, show (60 : Int32) = nI 60 from rfl, i_add]
    have q1 : nI (60 + 3 * K) + 1 = nI (60 + 3 * K + 1) := i_add _ 1
    have q2 : nI (60 + 3 * K) + 2 = nI (60 + 3 * K + 2) := i_add _ 2
    rw [q0, q1, q2, gd_t (i_k (by omega) (by decide)), gd_t (i_k (by omega) (by decide)), gd_t (i_k (by omega) (by decide)), i_cl (by omega), i_cl (by omega), i_cl (by omega)]
    rw [u_is, u_no _ _ _ (show 2 ≠ 60 + 3 * K + 2 by omega), u_no _ _ _ (show 2 ≠ 60 + 3 * K + 1 by omega), u_no _ _ _ (show 2 ≠ 60 + 3 * K by omega), hK, i_s, show (1 : Int32) = nI 1 from rfl, i_sub (by omega) (by omega), Nat.add_sub_cancel]
theorem lm_part : LM_part Rel := by
  intro u k0 k1 v a1 a2 a3 hR
  by_cases c : vPart a1 a2 a3
  · have hR' := hR
    obtain ⟨L, K, P, ⟨hT, hS, hp, hm, hl, hq⟩, h0, h1, hf, hF, hC⟩ := hR
    have e5 := e_part5T (u := u) hq.2.1 hq.1 c
    have e6 := e_part6T (v := v) hq.2.2.1 hq.1 c
    have hK8 := hq.1
    have hL8 := hl.1
    by_cases h : P = 6
    · rw [if_pos h] at e5 e6
      exact lm_b hR' (j := 2) (by decide) (-4) e5 e6
    · rw [if_neg h] at e5 e6
      unfold vPart at c
      generalize hb : upd (upd (upd (upd (gR v 0) (60 + 3 * P) a1) (60 + 3 * P + 1) a2) (60 + 3 * P + 2) a3) 2 (nI (P + 1)) = b' at e6
      have n1 : b' 2 = nI (P + 1) := by rw [← hb, u_is]
      have no : ∀ j, j ≠ 2 → j < 60 ∨ 60 + 3 * P + 3 ≤ j → b' j = gR v 0 j := fun j h1 h2 => by
        rw [← hb, u_no _ _ _ h1, u_no _ _ _ (by omega), u_no _ _ _ (by omega), u_no _ _ _ (by omega)]
      have nl : ∀ i, i < 3 * P + 3 → upd (upd (upd (gR u 6) (3 * P) a1) (3 * P + 1) a2) (3 * P + 2) a3 i = b' (60 + i) := fun i hi => by
        rw [up3 (gR u 6) (gR v 0) (3 * P) 60 a1 a2 a3 hq.2.2.2.1 i hi, ← hb, u_no 2 _ _ (by omega)]
      have n4 : ∀ i, i < 3 * P → b' (60 + i) = gR v 0 (60 + i) := fun i hi => by
        rw [← nl i (by omega), u_no _ _ _ (by omega), u_no _ _ _ (by omega), u_no _ _ _ (by omega), hq.2.2.2.1 i hi]
      have hC' : CA (sR (sI u 4 (nI (P + 1))) 6 (upd (upd (upd (gR u 6) (3 * P) a1) (3 * P + 1) a2) (3 * P + 2) a3)) b' L K := by
        have e1 : tx b' = tx (gR v 0) := funext fun i => no _ (by omega) (by omega)
        have e2 : blk b' = fun i => (b' (20 + i)).toInt := rfl
        refine ⟨?_, ?_⟩
        · rw [no 4 (by omega) (by omega), e1]
          exact hC.1
        · rcases hC.2 with h9 | ⟨h9, h10, D, h11, h12⟩
          · exact Or.inl h9
          · refine Or.inr ⟨h9, h10, D, by rw [e1]; exact h11, ?_⟩
            rw [no 4 (by omega) (by omega), no 5 (by omega) (by omega), no 6 (by omega) (by omega), no 7 (by omega) (by omega)]
            exact GsOk_cg h12 rfl rfl (fun i hi => by show nat (b' (8 + i)) = _; rw [no _ (by omega) (by omega)]) (fun i hi => by show (b' (20 + i)).toInt = _; rw [no _ (by omega) (by omega)])
      refine ⟨_, _, _, e5, e6, ⟨L, K, P + 1, ⟨Kt_cg hT rfl rfl (no 0 (by omega) (by omega)) (fun i hi => no _ (by omega) (by omega)), Ks_cg hS rfl (fun i hi => no _ (by omega) (by omega)), Kp_cg hp rfl (fun i hi => no _ (by omega) (by omega)), Km_cg hm rfl (fun i hi => no _ (by omega) (by omega)), Kl_cg hl rfl rfl (no 1 (by omega) (by omega)) (fun i hi => no _ (by omega) (by omega)), ⟨by omega, rfl, n1, fun i hi => nl i (by omega), fun i hi => ?_⟩⟩, h0, h1, hf, hF, hC'⟩, rfl⟩
      show (1 ≤ (b' (60 + 3 * i)).toInt ∧ (b' (60 + 3 * i)).toInt ≤ 99) ∧ (1 ≤ (b' (60 + (3 * i + 1))).toInt ∧ (b' (60 + (3 * i + 1))).toInt ≤ 99) ∧ 0 ≤ (b' (60 + (3 * i + 2))).toInt ∧ (b' (60 + (3 * i + 2))).toInt ≤ 10
      by_cases hi2 : i = P
      · subst hi2
        rw [← nl (3 * i) (by omega), ← nl (3 * i + 1) (by omega), ← nl (3 * i + 2) (by omega)]
        rw [u_is, u_no (3 * i + 2) _ _ (show 3 * i ≠ 3 * i + 2 by omega), u_no (3 * i + 1) _ _ (show 3 * i ≠ 3 * i + 1 by omega), u_is, u_no (3 * i + 2) _ _ (show 3 * i + 1 ≠ 3 * i + 2 by omega), u_is]
        omega
      · rw [n4 (3 * i) (by omega), n4 (3 * i + 1) (by omega), n4 (3 * i + 2) (by omega)]
        exact hq.2.2.2.2 i (by omega)
  · exact lm_b hR (j := 0) (by decide) (-2) (e_part5F c) (e_part6F c)
/-! fault -/
def vNone (a2 a3 : Int32) : Prop := a2.toInt = -1 ∧ a3.toInt = 0
def vFault (a1 a2 a3 : Int32) : Prop := (0 ≤ a1.toInt ∧ a1.toInt ≤ 3) ∧ (vNone a2 a3 ∨ ((0 ≤ a2.toInt ∧ a2.toInt ≤ 6) ∧ 1 ≤ a3.toInt ∧ a3.toInt ≤ 3))
theorem m1_eq (a : Int32) : a = -1 ↔ a.toInt = -1 := by rw [z_eq]; rfl
theorem z0_eq (a : Int32) : a = 0 ↔ a.toInt = 0 := by rw [z_eq]; rfl
theorem e_fault5F {u : KS} {a1 a2 a3 : Int32} (c : ¬ vFault a1 a2 a3) : mX5_fault u a1 a2 a3 = some (-2, b5 u 0) := by
  unfold vFault vNone at c
  unfold mX5_fault
  simp only [e_isFault, bs, b_i2, e_bad5]
  repeat' split
  all_goals first | rfl | (exfalso; (simp only [z_lt, z_le, z_gt, z_ge, z_eq, zm1, zm2, Int32.reduceToInt] at *; omega))
theorem e_fault6F {v : KS} {a1 a2 a3 : Int32} (c : ¬ vFault a1 a2 a3) : mX6_fault v a1 a2 a3 = some (-2, b6 v 0) := by
  unfold vFault vNone at c
  unfold mX6_fault
  simp only [e_inc a1 0 3 (l := 0) (h := 3) rfl rfl, e_inc a2 0 6 (l := 0) (h := 6) rfl rfl, e_inc a3 1 3 (l := 1) (h := 3) rfl rfl, bs, b_i2, e_bad6]
  repeat' split
  all_goals first | rfl | (exfalso; (simp only [z_lt, z_le, z_gt, z_ge, z_eq, zm1, zm2, Int32.reduceToInt] at *; omega))
theorem e_fault5T {u : KS} {a1 a2 a3 : Int32} (c : vFault a1 a2 a3) : ∃ x : Int32, (x = if a2.toInt = -1 then -1 else 3 * a2 + a3 - 1) ∧ mX5_fault u a1 a2 a3 = some (1, sR u 4 (upd (gR u 4) a1.toInt.toNat x)) := by
  refine ⟨_, rfl, ?_⟩
  unfold vFault vNone at c
  unfold mX5_fault mX5_faultOf
  simp only [e_isFault, bs, b_i2, e_bad5, e_set (show 4 < 2147483648 by decide)]
  rw [if_pos (show 0 ≤ a1.toInt ∧ a1.toInt < ((4 : Nat) : Int) by omega), if_pos (show 0 ≤ a1.toInt ∧ a1.toInt < ((4 : Nat) : Int) by omega)]
  by_cases h : a2.toInt = -1
  · rw [if_pos ((m1_eq a2).mpr h), if_pos h, if_pos ((z0_eq a3).mpr (by omega)), if_neg (by (simp only [z_lt, z_le, z_gt, z_ge, z_eq, zm1, zm2, Int32.reduceToInt] at *; omega)), if_neg (by (simp only [z_lt, z_le, z_gt, z_ge, z_eq, zm1, zm2, Int32.reduceToInt] at *; omega))]
  · rw [if_neg (fun q => h ((m1_eq a2).mp q)), if_neg h, if_neg (by (simp only [z_lt, z_le, z_gt, z_ge, z_eq, zm1, zm2, Int32.reduceToInt] at *; omega)), if_neg (by (simp only [z_lt, z_le, z_gt, z_ge, z_eq, zm1, zm2, Int32.reduceToInt] at *; omega)), if_pos (by omega)]
theorem e_fault6T {v : KS} {a1 a2 a3 : Int32} (c : vFault a1 a2 a3) : ∃ x : Int32, (x = if a2.toInt = -1 then -1 else 3 * a2 + a3 - 1) ∧ mX6_fault v a1 a2 a3 = some (1, sR v 0 (upd (gR v 0) (15 + a1.toInt.toNat) x)) := by
  refine ⟨_, rfl, ?_⟩
  unfold vFault vNone at c
  have e4 : (15 + a1).toInt = 15 + a1.toInt := z_addc (by show (-2147483648 : Int) ≤ 15 + _; omega) (by show 15 + _ < (2147483648 : Int); omega)
  have e5 : (15 + a1).toNatClampNeg = 15 + a1.toInt.toNat := by rw [z_cl, e4]; omega
  have e6 : inb (15 + a1) 200 := i_inb' (by omega) (by omega)
  unfold mX6_fault
  simp only [e_inc a1 0 3 (l := 0) (h := 3) rfl rfl, e_inc a2 0 6 (l := 0) (h := 6) rfl rfl, e_inc a3 1 3 (l := 1) (h := 3) rfl rfl, bs, b_i2, e_bad6, gd_t e6, e5]
  rw [if_pos c.1]
  by_cases h : a2.toInt = -1
  · rw [if_pos ((m1_eq a2).mpr h), if_pos h, if_pos ((z0_eq a3).mpr (by omega))]
  · rw [if_neg (fun q => h ((m1_eq a2).mp q)), if_neg h, if_pos c.1, if_pos (by omega), if_pos (by omega)]
theorem lm_fault : LM_fault Rel := by
  intro u k0 k1 v a1 a2 a3 hR
  by_cases c : vFault a1 a2 a3
  · obtain ⟨L, K, P, ⟨hT, hS, hp, hm, hl, hq⟩, h0, h1, hf, hF, hC⟩ := hR
    obtain ⟨z, hx, e5⟩ := e_fault5T (u := u) c
    obtain ⟨y, hy, e6⟩ := e_fault6T (v := v) c
    rw [hy.trans hx.symm] at e6
    have hxr : -1 ≤ z.toInt ∧ z.toInt ≤ 20 := by
      unfold vFault vNone at c
      by_cases h : a2.toInt = -1
      · rw [if_pos h] at hx; rw [hx]; decide
      · rw [if_neg h] at hx
        have q1 : (3 * a2).toInt = 3 * a2.toInt := z_mulc (by show (-2147483648 : Int) ≤ 3 * _; omega) (by show 3 * _ < (2147483648 : Int); omega)
        have q2 : (3 * a2 + a3).toInt = 3 * a2.toInt + a3.toInt := by rw [z_addc (by omega) (by omega), q1]
        have q3 : (3 * a2 + a3 - 1).toInt = 3 * a2.toInt + a3.toInt - 1 := by rw [z_subc (by rw [q2]; show (-2147483648 : Int) ≤ _ - 1; omega) (by rw [q2]; show _ - 1 < (2147483648 : Int); omega), q2]; rfl
        rw [hx, q3]; omega
    have c1 := c.1
    refine ⟨1, _, _, e5, e6, ⟨L, K, P, ⟨Kt_cg hT rfl rfl (wn (by omega)) (fun i hi => wn (by omega)), Ks_cg hS rfl (fun i hi => wn (by omega)), Kp_cg hp rfl (fun i hi => wn (by omega)), fun i hi => ?_, Kl_cg hl rfl rfl (wn (by omega)) (fun i hi => wn (by omega)), Kq_cg hq rfl rfl (wn (by omega)) (fun i hi => wn (by omega))⟩, h0, h1, hf, hF, ?_⟩, rfl⟩
    · show upd (gR u 4) a1.toInt.toNat z i = upd (gR v 0) (15 + a1.toInt.toNat) z (15 + i) ∧ -1 ≤ (upd (gR v 0) (15 + a1.toInt.toNat) z (15 + i)).toInt ∧ (upd (gR v 0) (15 + a1.toInt.toNat) z (15 + i)).toInt ≤ 20
      by_cases hi2 : i = a1.toInt.toNat
      · subst hi2; rw [u_is, u_is]; exact ⟨rfl, hxr⟩
      · rw [u_no _ _ _ hi2, u_no _ _ _ (show 15 + i ≠ 15 + a1.toInt.toNat by omega)]; exact hm i hi
    · generalize hb : upd (gR v 0) (15 + a1.toInt.toNat) z = b'
      have no : ∀ j, j < 15 ∨ 19 ≤ j → b' j = gR v 0 j := fun j h => by rw [← hb, u_no _ _ _ (by omega)]
      have e1 : tx b' = tx (gR v 0) := funext fun i => no _ (by omega)
      refine ⟨?_, ?_⟩
      · show _ ∨ (_ ∧ DayOk _ (tx b') L (nat (b' 4)))
        rw [no 4 (by omega), e1]
        exact hC.1
      · rcases hC.2 with h9 | ⟨h9, h10, D, h11, h12⟩
        · exact Or.inl h9
        · refine Or.inr ⟨h9, h10, D, by show day (tx b') L = _; rw [e1]; exact h11, ?_⟩
          show GsOk _ D (nat (b' 4)) (nat (b' 5)) (nat (b' 6)) (nat (b' 7)) (bpr b') (blk b') K
          rw [no 4 (by omega), no 5 (by omega), no 6 (by omega), no 7 (by omega)]
          exact GsOk_cg h12 rfl rfl (fun i hi => by show nat (b' (8 + i)) = _; rw [no _ (by omega)]) (fun i hi => by show (b' (20 + i)).toInt = _; rw [no _ (by omega)])
  · exact lm_b hR (j := 0) (by decide) (-2) (e_fault5F c) (e_fault6F c)
