/-! small tests, and the calls that change little -/
theorem zm1 : (-1 : Int32).toInt = -1 := rfl
theorem zm2 : (-2 : Int32).toInt = -2 := rfl
theorem b_if {α : Type} {c : Prop} {d : Decidable c} (X Y : Option α) : ((some (@ite Int32 c d 1 0)).bind fun r => if r = 0 then X else Y) = @ite (Option α) c d Y X := by
  by_cases h : c
  · rw [if_pos h, if_pos h]; rfl
  · rw [if_neg h, if_neg h]; rfl
theorem b_i2 {α : Type} {c : Prop} {d : Decidable c} {d2 : Decidable ((@ite Int32 c d 1 0) = 0)} (X Y : Option α) : (@ite (Option α) ((@ite Int32 c d 1 0) = 0) d2 X Y) = @ite (Option α) c d Y X := by
  by_cases h : c
  · have h1 : ¬ ((@ite Int32 c d 1 0) = 0) := by rw [if_pos h]; decide
    exact (if_neg h1).trans (if_pos h).symm
  · have h1 : (@ite Int32 c d 1 0) = 0 := by rw [if_neg h]
    exact (if_pos h1).trans (if_neg h).symm
theorem e_isDeep (a : Int32) : mX5_isDeep a = some (if 1 ≤ a.toInt ∧ a.toInt ≤ 3 then 1 else 0) := by
  unfold mX5_isDeep
  repeat' split
  all_goals first | rfl | (exfalso; (simp only [z_lt, z_le, z_gt, z_ge, z_eq, zm1, zm2, Int32.reduceToInt] at *; omega))
theorem e_isFault (a b : Int32) : mX5_isFault a b = some (if (0 ≤ a.toInt ∧ a.toInt ≤ 6) ∧ 1 ≤ b.toInt ∧ b.toInt ≤ 3 then 1 else 0) := by
  unfold mX5_isFault
  simp only [e_isDeep, b_if, b_i2]
  repeat' split
  all_goals first | rfl | (exfalso; (simp only [z_lt, z_le, z_gt, z_ge, z_eq, zm1, zm2, Int32.reduceToInt] at *; omega))
theorem e_isColor (a : Int32) : mX5_isColor a = some (if 0 ≤ a.toInt ∧ a.toInt ≤ 3 then 1 else 0) := by
  unfold mX5_isColor
  repeat' split
  all_goals first | rfl | (exfalso; (simp only [z_lt, z_le, z_gt, z_ge, z_eq, zm1, zm2, Int32.reduceToInt] at *; omega))
theorem e_isCut (a : Int32) : mX5_isCut a = some (if -1 ≤ a.toInt ∧ a.toInt ≤ 3 then 1 else 0) := by
  unfold mX5_isCut
  repeat' split
  all_goals first | rfl | (exfalso; (simp only [z_lt, z_le, z_gt, z_ge, z_eq, zm1, zm2, Int32.reduceToInt] at *; omega))
theorem wn {v : KS} {k j : Nat} {x : Int32} (h : j ≠ k) : gR (sR v 0 (upd (gR v 0) k x)) 0 j = gR v 0 j := if_neg h
theorem wi {v : KS} {k : Nat} {x : Int32} : gR (sR v 0 (upd (gR v 0) k x)) 0 k = x := if_pos rfl
/-! clear, forget -/
/-! prior, put -/
theorem e_prior5 (u : KS) (a1 a2 : Int32) : mX5_prior u a1 a2 = some (if (0 ≤ a1.toInt ∧ a1.toInt ≤ 6) ∧ 0 ≤ a2.toInt ∧ a2.toInt ≤ 9 then (gR u 3 a1.toInt.toNat, sR (sI u 1 1) 3 (upd (gR u 3) a1.toInt.toNat a2)) else (-2, b5 u 0)) := by
  unfold mX5_prior
  simp only [e_at (show 7 < 2147483648 by decide), e_set (show 7 < 2147483648 by decide), e_bad5, bs]
  repeat' split
  all_goals first | rfl | (exfalso; (simp only [z_lt, z_le, z_gt, z_ge, z_eq, zm1, zm2, Int32.reduceToInt] at *; omega))
theorem e_isSet (a1 a2 : Int32) : mX5_isSetting a1 a2 = some (if (0 ≤ a1.toInt ∧ a1.toInt ≤ 3) ∧ ([(0 : Int32), 1, 1, 0].getD a1.toInt.toNat 0).toInt ≤ a2.toInt ∧ a2.toInt ≤ ([(100 : Int32), 40, 9, 99].getD a1.toInt.toNat 0).toInt then 1 else 0) := by
  unfold mX5_isSetting
  by_cases c : 0 ≤ a1.toInt ∧ a1.toInt ≤ 3
  · rw [if_neg (by (simp only [z_lt, z_le, z_gt, z_ge, z_eq, zm1, zm2, Int32.reduceToInt] at *; omega)), if_neg (by (simp only [z_lt, z_le, z_gt, z_ge, z_eq, zm1, zm2, Int32.reduceToInt] at *; omega)), if_neg (by (simp only [z_lt, z_le, z_gt, z_ge, z_eq, zm1, zm2, Int32.reduceToInt] at *; omega)), gd_t (i_inb' (by omega) (by omega)), gd_t (i_inb' (by omega) (by omega)), z_cl]
    generalize [(0 : Int32), 1, 1, 0].getD a1.toInt.toNat 0 = x
    generalize [(100 : Int32), 40, 9, 99].getD a1.toInt.toNat 0 = y
    repeat' split
    all_goals first | rfl | (exfalso; (simp only [z_lt, z_le, z_gt, z_ge, z_eq, zm1, zm2, Int32.reduceToInt] at *; omega))
  · repeat' split
    all_goals first | rfl | (exfalso; (simp only [z_lt, z_le, z_gt, z_ge, z_eq, zm1, zm2, Int32.reduceToInt] at *; omega))
def vPut (a1 a2 : Int32) : Prop := (a1.toInt = 0 ∧ 0 ≤ a2.toInt ∧ a2.toInt ≤ 100) ∨ (a1.toInt = 1 ∧ 1 ≤ a2.toInt ∧ a2.toInt ≤ 40) ∨ (a1.toInt = 2 ∧ 1 ≤ a2.toInt ∧ a2.toInt ≤ 9) ∨ (a1.toInt = 3 ∧ 0 ≤ a2.toInt ∧ a2.toInt ≤ 99)
theorem vPut_is (a1 a2 : Int32) : ((0 ≤ a1.toInt ∧ a1.toInt ≤ 3) ∧ ([(0 : Int32), 1, 1, 0].getD a1.toInt.toNat 0).toInt ≤ a2.toInt ∧ a2.toInt ≤ ([(100 : Int32), 40, 9, 99].getD a1.toInt.toNat 0).toInt) ↔ vPut a1 a2 := by
  unfold vPut
  by_cases c : 0 ≤ a1.toInt ∧ a1.toInt ≤ 3
  · rcases (show a1.toInt = 0 ∨ a1.toInt = 1 ∨ a1.toInt = 2 ∨ a1.toInt = 3 by omega) with h | h | h | h <;> rw [h] <;> simp <;> rfl
  · constructor
    · intro h; exact absurd h.1 c
    · intro h; omega
theorem e_put5T {u : KS} {a1 a2 : Int32} (c : vPut a1 a2) : mX5_put u a1 a2 = some (gR u 2 a1.toInt.toNat, sI (sI (sR u 2 (upd (gR u 2) a1.toInt.toNat a2)) 0 1) 1 1) := by
  have c1 := (vPut_is a1 a2).mpr c
  unfold mX5_put
  simp only [e_isSet, e_at (show 4 < 2147483648 by decide), e_set (show 4 < 2147483648 by decide), bs, b_i2]
  rw [if_pos c1, if_pos (show 0 ≤ a1.toInt ∧ a1.toInt < ((4 : Nat) : Int) by omega), if_pos (show 0 ≤ a1.toInt ∧ a1.toInt < ((4 : Nat) : Int) by omega)]
  rfl
theorem e_put5F {u : KS} {a1 a2 : Int32} (c : ¬ vPut a1 a2) : mX5_put u a1 a2 = some (-2, b5 u 0) := by
  have c1 : ¬ _ := fun h => c ((vPut_is a1 a2).mp h)
  unfold mX5_put
  simp only [e_isSet, bs, b_i2]
  rw [if_neg c1, e_bad5]
  rfl
