/-! small tests, and the calls that change little -/
theorem zm1 : (-1 : Int32).toInt = -1 := rfl
theorem zm2 : (-2 : Int32).toInt = -2 := rfl
theorem b_if {α : Type} {c : Prop} {d : Decidable c} (X Y : Option α) : ((some (@ite Int32 c d 1 0)).bind fun r => if r = 0 then X else Y) = @ite (Option α) c d Y X := by
  by_cases h : c
  · rw [if_pos h, if_pos h]; rfl
  · rw [if_neg h, if_neg h]; rfl
theorem b_i2 {α : Type} {c : Prop} {d : Decidable c} {d2 : Decidable ((@ite Int32 c d 1 0) = 0)} (X Y : Option α) : (@ite (Option α) ((@ite Int32 c d 1 0) = 0) d2 X Y) = @ite (Option α) c d Y X := by
  by_cases h : c
  · have h1 : ¬ ((@ite Int32 c d 1 0) = 0) := by rw [if_pos h]; decide
    exact (if_neg h1).trans (if_pos h).symm
  · have h1 : (@ite Int32 c d 1 0) = 0 := by rw [if_neg h]
    exact (if_pos h1).trans (if_neg h).symm
theorem e_isDeep (a : Int32) : mX5_isDeep a = some (if 1 ≤ a.toInt ∧ a.toInt ≤ 3 then 1 else 0) := by
  unfold mX5_isDeep
  repeat' split
  all_goals first | rfl | (exfalso; (simp only [z_lt, z_le, z_gt, z_ge, z_eq, zm1, zm2, Int32.reduceToInt] at *; omega))
theorem e_isFault (a b : Int32) : mX5_isFault a b = some (if (0 ≤ a.toInt ∧ a.toInt ≤ 6) ∧ 1 ≤ b.toInt ∧ b.toInt ≤ 3 then 1 else 0) := by
  unfold mX5_isFault
  simp only [e_isDeep, b_if, b_i2]
  repeat' split
  all_goals first | rfl | (exfalso; (simp only [z_lt, z_le, z_gt, z_ge, z_eq, zm1, zm2, Int32.reduceToInt] at *; omega))
theorem e_isColor (a : Int32) : mX5_isColor a = some (if 0 ≤ a.toInt ∧ a.toInt ≤ 3 then 1 else 0) := by
  unfold mX5_isColor
  repeat' split
  all_goals first | rfl | (exfalso; (simp only [z_lt, z_le, z_gt, z_ge, z_eq, zm1, zm2, Int32.reduceToInt] at *; omega))
theorem e_isCut (a : Int32) : mX5_isCut a = some (if -1 ≤ a.toInt ∧ a.toInt ≤ 3 then 1 else 0) := by
  unfold mX5_isCut
  repeat' split
  all_goals first | rfl | (exfalso; (simp only [z_lt, z_le, z_gt, z_ge, z_eq, zm1, zm2, Int32.reduceToInt] at *; omega))
theorem e_isDeep6 (a : Int32) : mX6_isDeep a = some (if 1 ≤ a.toInt ∧ a.toInt ≤ 3 then 1 else 0) := by
  unfold mX6_isDeep
  rw [e_inc a 1 3 (l := 1) (h := 3) rfl rfl, bs]
  by_cases c : 1 ≤ a.toInt ∧ a.toInt ≤ 3
  · rw [if_pos c]; exact gd_t (Or.inr rfl)
  · rw [if_neg c]; exact gd_t (Or.inl rfl)
theorem e_puts (v : KS) {k : Nat} (hk : k < 200) (x : Int32) : mX6_puts v (nI k) x = some (gR v 0 k, sR v 0 (upd (gR v 0) k x)) := by
  unfold mX6_puts
  rw [gd_t (i_k hk (by decide)), gd_t (i_k hk (by decide)), i_cl (by omega)]
theorem e_putsI (v : KS) {a : Int32} (h0 : 0 ≤ a.toInt) (h1 : a.toInt < 200) (x : Int32) : mX6_puts v a x = some (gR v 0 a.toInt.toNat, sR v 0 (upd (gR v 0) a.toInt.toNat x)) := by
  unfold mX6_puts
  rw [gd_t (i_inb' h0 h1), gd_t (i_inb' h0 h1), z_cl]
theorem wn {v : KS} {k j : Nat} {x : Int32} (h : j ≠ k) : gR (sR v 0 (upd (gR v 0) k x)) 0 j = gR v 0 j := if_neg h
theorem wi {v : KS} {k : Nat} {x : Int32} : gR (sR v 0 (upd (gR v 0) k x)) 0 k = x := if_pos rfl
/-! clear, forget -/
theorem lm_clear : LM_clear Rel := by
  intro u k0 k1 v ⟨L, K, P, ⟨hT, hS, hp, hm, hl, hq⟩, h0, h1, hf, hF, hC⟩
  refine ⟨nI L, sI (sI (sI u 2 0) 0 1) 1 1, sR v 0 (upd (gR v 0) 0 0), ?_, ?_, ⟨0, K, P, ⟨?_, Ks_cg hS rfl (fun i hi => wn (by omega)), Kp_cg hp rfl (fun i hi => wn (by omega)), Km_cg hm rfl (fun i hi => wn (by omega)), Kl_cg hl rfl rfl (wn (by omega)) (fun i hi => wn (by omega)), Kq_cg hq rfl rfl (wn (by omega)) (fun i hi => wn (by omega))⟩, h0, h1, hf, hF, Or.inl rfl, Or.inl rfl⟩, rfl⟩
  · rw [← hT.2.1]; rfl
  · unfold mX6_clear
    rw [show (0 : Int32) = nI 0 from rfl, e_puts v (by decide), ← hT.2.2.1]
    rfl
  · exact ⟨by decide, rfl, wi, fun i hi => absurd hi (by omega)⟩
theorem lm_forget : LM_forget Rel := by
  intro u k0 k1 v ⟨L, K, P, ⟨hT, hS, hp, hm, hl, hq⟩, h0, h1, hf, hF, hC⟩
  refine ⟨nI K, sI (sI u 1 1) 3 0, sR v 0 (upd (gR v 0) 1 0), ?_, ?_, ⟨L, 0, P, ⟨Kt_cg hT rfl rfl (wn (by omega)) (fun i hi => wn (by omega)), Ks_cg hS rfl (fun i hi => wn (by omega)), Kp_cg hp rfl (fun i hi => wn (by omega)), Km_cg hm rfl (fun i hi => wn (by omega)), ?_, Kq_cg hq rfl rfl (wn (by omega)) (fun i hi => wn (by omega))⟩, h0, h1, hf, hF, ?_, Or.inl rfl⟩, rfl⟩
  · rw [← hl.2.1]; rfl
  · unfold mX6_forget
    rw [show (1 : Int32) = nI 1 from rfl, e_puts v (by decide), ← hl.2.2.1]
    rfl
  · exact ⟨by decide, rfl, wi, fun i hi => absurd hi (by omega), fun i hi => absurd hi (by omega)⟩
  · show _ ∨ (_ ∧ DayOk _ (tx (upd (gR v 0) 1 0)) L (nat (upd (gR v 0) 1 0 4)))
    rw [tx_up (by omega), u_no _ _ _ (show (4 : Nat) ≠ _ by omega)]
    exact hC.1
/-! prior, put -/
theorem e_prior5 (u : KS) (a1 a2 : Int32) : mX5_prior u a1 a2 = some (if (0 ≤ a1.toInt ∧ a1.toInt ≤ 6) ∧ 0 ≤ a2.toInt ∧ a2.toInt ≤ 9 then (gR u 3 a1.toInt.toNat, sR (sI u 1 1) 3 (upd (gR u 3) a1.toInt.toNat a2)) else (-2, b5 u 0)) := by
  unfold mX5_prior
  simp only [e_at (show 7 < 2147483648 by decide), e_set (show 7 < 2147483648 by decide), e_bad5, bs]
  repeat' split
  all_goals first | rfl | (exfalso; (simp only [z_lt, z_le, z_gt, z_ge, z_eq, zm1, zm2, Int32.reduceToInt] at *; omega))
theorem e_prior6 (v : KS) (a1 a2 : Int32) : mX6_prior v a1 a2 = some (if (0 ≤ a1.toInt ∧ a1.toInt ≤ 6) ∧ 0 ≤ a2.toInt ∧ a2.toInt ≤ 9 then (gR v 0 (8 + a1.toInt.toNat), sR v 0 (upd (gR v 0) (8 + a1.toInt.toNat) a2)) else (-2, b6 v 0)) := by
  unfold mX6_prior
  by_cases c1 : 0 ≤ a1.toInt ∧ a1.toInt ≤ 6
  · have e8 : (8 + a1).toInt = 8 + a1.toInt := z_addc (by show (-2147483648 : Int) ≤ 8 + _; omega) (by show 8 + _ < (2147483648 : Int); omega)
    have e9 : (8 + a1).toInt.toNat = 8 + a1.toInt.toNat := by rw [e8]; omega
    simp only [e_inc a1 0 6 (l := 0) (h := 6) rfl rfl, e_inc a2 0 9 (l := 0) (h := 9) rfl rfl, b_if, b_i2, e_bad6, bs, e_putsI v (show 0 ≤ (8 + a1).toInt by omega) (show (8 + a1).toInt < 200 by omega), e9]
    repeat' split
    all_goals first | rfl | (exfalso; omega)
  · simp only [e_inc a1 0 6 (l := 0) (h := 6) rfl rfl, b_if, b_i2, e_bad6, bs]
    repeat' split
    all_goals first | rfl | (exfalso; omega)
theorem lm_prior : LM_prior Rel := by
  intro u k0 k1 v a1 a2 hR
  by_cases c : (0 ≤ a1.toInt ∧ a1.toInt ≤ 6) ∧ 0 ≤ a2.toInt ∧ a2.toInt ≤ 9
  · obtain ⟨L, K, P, ⟨hT, hS, hp, hm, hl, hq⟩, h0, h1, hf, hF, hC⟩ := hR
    refine ⟨gR v 0 (8 + a1.toInt.toNat), sR (sI u 1 1) 3 (upd (gR u 3) a1.toInt.toNat a2), sR v 0 (upd (gR v 0) (8 + a1.toInt.toNat) a2), ?_, ?_, ⟨L, K, P, ⟨Kt_cg hT rfl rfl (wn (by omega)) (fun i hi => wn (by omega)), Ks_cg hS rfl (fun i hi => wn (by omega)), fun i hi => ?_, Km_cg hm rfl (fun i hi => wn (by omega)), Kl_cg hl rfl rfl (wn (by omega)) (fun i hi => wn (by omega)), Kq_cg hq rfl rfl (wn (by omega)) (fun i hi => wn (by omega))⟩, h0, h1, hf, hF, ?_, Or.inl rfl⟩, rfl⟩
    · rw [e_prior5, if_pos c, ← (hp a1.toInt.toNat (by omega)).1]
    · rw [e_prior6, if_pos c]
    · show upd (gR u 3) a1.toInt.toNat a2 i = upd (gR v 0) (8 + a1.toInt.toNat) a2 (8 + i) ∧ 0 ≤ (upd (gR v 0) (8 + a1.toInt.toNat) a2 (8 + i)).toInt ∧ (upd (gR v 0) (8 + a1.toInt.toNat) a2 (8 + i)).toInt ≤ 9
      by_cases hi2 : i = a1.toInt.toNat
      · subst hi2; rw [u_is, u_is]; exact ⟨rfl, c.2⟩
      · rw [u_no _ _ _ hi2, u_no _ _ _ (show 8 + i ≠ 8 + a1.toInt.toNat by omega)]; exact hp i hi
    · show _ ∨ (_ ∧ DayOk _ (tx (upd (gR v 0) _ a2)) L (nat (upd (gR v 0) _ a2 4)))
      rw [tx_up (by omega), u_no _ _ _ (show (4 : Nat) ≠ _ by omega)]
      exact hC.1
  · exact lm_b hR (j := 0) (by decide) (-2) (by rw [e_prior5, if_neg c]) (by rw [e_prior6, if_neg c])
theorem e_isSet (a1 a2 : Int32) : mX5_isSetting a1 a2 = some (if (0 ≤ a1.toInt ∧ a1.toInt ≤ 3) ∧ ([(0 : Int32), 1, 1, 0].getD a1.toInt.toNat 0).toInt ≤ a2.toInt ∧ a2.toInt ≤ ([(100 : Int32), 40, 9, 99].getD a1.toInt.toNat 0).toInt then 1 else 0) := by
  unfold mX5_isSetting
  by_cases c : 0 ≤ a1.toInt ∧ a1.toInt ≤ 3
  · rw [if_neg (by (simp only [z_lt, z_le, z_gt, z_ge, z_eq, zm1, zm2, Int32.reduceToInt] at *; omega)), if_neg (by (simp only [z_lt, z_le, z_gt, z_ge, z_eq, zm1, zm2, Int32.reduceToInt] at *; omega)), if_neg (by (simp only [z_lt, z_le, z_gt, z_ge, z_eq, zm1, zm2, Int32.reduceToInt] at *; omega)), gd_t (i_inb' (by omega) (by omega)), gd_t (i_inb' (by omega) (by omega)), z_cl]
    generalize [(0 : Int32), 1, 1, 0].getD a1.toInt.toNat 0 = x
    generalize [(100 : Int32), 40, 9, 99].getD a1.toInt.toNat 0 = y
    repeat' split
    all_goals first | rfl | (exfalso; (simp only [z_lt, z_le, z_gt, z_ge, z_eq, zm1, zm2, Int32.reduceToInt] at *; omega))
  · repeat' split
    all_goals first | rfl | (exfalso; (simp only [z_lt, z_le, z_gt, z_ge, z_eq, zm1, zm2, Int32.reduceToInt] at *; omega))
def vPut (a1 a2 : Int32) : Prop := (a1.toInt = 0 ∧ 0 ≤ a2.toInt ∧ a2.toInt ≤ 100) ∨ (a1.toInt = 1 ∧ 1 ≤ a2.toInt ∧ a2.toInt ≤ 40) ∨ (a1.toInt = 2 ∧ 1 ≤ a2.toInt ∧ a2.toInt ≤ 9) ∨ (a1.toInt = 3 ∧ 0 ≤ a2.toInt ∧ a2.toInt ≤ 99)
theorem vPut_is (a1 a2 : Int32) : ((0 ≤ a1.toInt ∧ a1.toInt ≤ 3) ∧ ([(0 : Int32), 1, 1, 0].getD a1.toInt.toNat 0).toInt ≤ a2.toInt ∧ a2.toInt ≤ ([(100 : Int32), 40, 9, 99].getD a1.toInt.toNat 0).toInt) ↔ vPut a1 a2 := by
  unfold vPut
  by_cases c : 0 ≤ a1.toInt ∧ a1.toInt ≤ 3
  · rcases (show a1.toInt = 0 ∨ a1.toInt = 1 ∨ a1.toInt = 2 ∨ a1.toInt = 3 by omega) with h | h | h | h <;> rw [h] <;> simp <;> rfl
  · constructor
    · intro h; exact absurd h.1 c
    · intro h; omega
theorem e_put5T {u : KS} {a1 a2 : Int32} (c : vPut a1 a2) : mX5_put u a1 a2 = some (gR u 2 a1.toInt.toNat, sI (sI (sR u 2 (upd (gR u 2) a1.toInt.toNat a2)) 0 1) 1 1) := by
  have c1 := (vPut_is a1 a2).mpr c
  unfold mX5_put
  simp only [e_isSet, e_at (show 4 < 2147483648 by decide), e_set (show 4 < 2147483648 by decide), bs, b_i2]
  rw [if_pos c1, if_pos (show 0 ≤ a1.toInt ∧ a1.toInt < ((4 : Nat) : Int) by omega), if_pos (show 0 ≤ a1.toInt ∧ a1.toInt < ((4 : Nat) : Int) by omega)]
  rfl
theorem e_put5F {u : KS} {a1 a2 : Int32} (c : ¬ vPut a1 a2) : mX5_put u a1 a2 = some (-2, b5 u 0) := by
  have c1 : ¬ _ := fun h => c ((vPut_is a1 a2).mp h)
  unfold mX5_put
  simp only [e_isSet, bs, b_i2]
  rw [if_neg c1, e_bad5]
  rfl
theorem e_put6T {v : KS} {a1 a2 : Int32} (c : vPut a1 a2) : mX6_put v a1 a2 = some (gR v 0 (4 + a1.toInt.toNat), sR v 0 (upd (gR v 0) (4 + a1.toInt.toNat) a2)) := by
  unfold vPut at c
  have e4 : (4 + a1).toInt = 4 + a1.toInt := z_addc (by show (-2147483648 : Int) ≤ 4 + _; omega) (by show 4 + _ < (2147483648 : Int); omega)
  have e5 : (4 + a1).toInt.toNat = 4 + a1.toInt.toNat := by rw [e4]; omega
  have hp := e_putsI v (show 0 ≤ (4 + a1).toInt by omega) (show (4 + a1).toInt < 200 by omega) a2
  rw [e5] at hp
  unfold mX6_put
  simp only [e_inc a2 0 100 (l := 0) (h := 100) rfl rfl, e_inc a2 1 40 (l := 1) (h := 40) rfl rfl, e_inc a2 1 9 (l := 1) (h := 9) rfl rfl, e_inc a2 0 99 (l := 0) (h := 99) rfl rfl, bs, b_i2, hp]
  repeat' split
  all_goals first | rfl | (exfalso; clear hp; (simp only [z_lt, z_le, z_gt, z_ge, z_eq, zm1, zm2, Int32.reduceToInt] at *; omega))
theorem e_put6F {v : KS} {a1 a2 : Int32} (c : ¬ vPut a1 a2) : mX6_put v a1 a2 = some (-2, b6 v 0) := by
  unfold vPut at c
  unfold mX6_put
  simp only [e_inc a2 0 100 (l := 0) (h := 100) rfl rfl, e_inc a2 1 40 (l := 1) (h := 40) rfl rfl, e_inc a2 1 9 (l := 1) (h := 9) rfl rfl, e_inc a2 0 99 (l := 0) (h := 99) rfl rfl, bs, b_i2, e_bad6]
  repeat' split
  all_goals first | rfl | (exfalso; (simp only [z_lt, z_le, z_gt, z_ge, z_eq, zm1, zm2, Int32.reduceToInt] at *; omega))
theorem lm_put : LM_put Rel := by
  intro u k0 k1 v a1 a2 hR
  by_cases c : vPut a1 a2
  · obtain ⟨L, K, P, ⟨hT, hS, hp, hm, hl, hq⟩, h0, h1, hf, hF, hC⟩ := hR
    have c' := c
    unfold vPut at c'
    refine ⟨gR v 0 (4 + a1.toInt.toNat), sI (sI (sR u 2 (upd (gR u 2) a1.toInt.toNat a2)) 0 1) 1 1, sR v 0 (upd (gR v 0) (4 + a1.toInt.toNat) a2), ?_, e_put6T c, ⟨L, K, P, ⟨Kt_cg hT rfl rfl (wn (by omega)) (fun i hi => wn (by omega)), ?_, Kp_cg hp rfl (fun i hi => wn (by omega)), Km_cg hm rfl (fun i hi => wn (by omega)), Kl_cg hl rfl rfl (wn (by omega)) (fun i hi => wn (by omega)), Kq_cg hq rfl rfl (wn (by omega)) (fun i hi => wn (by omega))⟩, h0, h1, hf, hF, Or.inl rfl, Or.inl rfl⟩, rfl⟩
    · rw [e_put5T c, ← hS.1 a1.toInt.toNat (by omega)]
    · have key : ∀ i, i < 4 → gR (sR v 0 (upd (gR v 0) (4 + a1.toInt.toNat) a2)) 0 (4 + i) = if i = a1.toInt.toNat then a2 else gR v 0 (4 + i) := by
        intro i hi
        by_cases h : i = a1.toInt.toNat
        · subst h; rw [wi, if_pos rfl]
        · rw [wn (by omega), if_neg h]
      have q0 := key 0 (by decide)
      have q1 := key 1 (by decide)
      have q2 := key 2 (by decide)
      have q3 := key 3 (by decide)
      refine ⟨fun i hi => ?_, ?_, ?_, ?_, ?_⟩
      · rw [key i hi]
        show upd (gR u 2) a1.toInt.toNat a2 i = _
        rw [u_s, hS.1 i hi]
      · rw [q0]; have := hS.2.1; split <;> omega
      · rw [q1]; have := hS.2.2.1; split <;> omega
      · rw [q2]; have := hS.2.2.2.1; split <;> omega
      · rw [q3]; have := hS.2.2.2.2; split <;> omega
  · exact lm_b hR (j := 0) (by decide) (-2) (e_put5F c) (e_put6F c)
