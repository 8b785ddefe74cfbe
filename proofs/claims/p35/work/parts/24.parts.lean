theorem wL_cg {D : List (Nat × Nat)} {f thin rgt snd : Nat} {pr pr' : Nat → Nat} {lk lk' : Nat → Int} {K : Nat} (hp : ∀ i, i < 7 → pr' i = pr i) (hl : ∀ i, i < 4 * K → lk' i = lk i) (g : Nat) : ∀ k, k ≤ K → wL D f thin rgt snd pr' lk' g k = wL D f thin rgt snd pr lk g k := by
  have hw : ∀ a, a < 21 → wf pr' a = wf pr a := fun a ha => by unfold wf; rw [hp _ (by omega)]
  intro k
  induction k with
  | zero =>
    intro _
    show wB snd pr' g = wB snd pr g
    unfold wB
    rw [hw _ (by omega), hw _ (by omega), hw _ (by omega)]
  | succ k ih =>
    intro hk
    unfold wL
    rw [ih (by omega), hl (4 * k) (by omega), hl (4 * k + 1) (by omega), hl (4 * k + 2) (by omega), hl (4 * k + 3) (by omega)]
theorem GsOk_cg {u u' : KS} {D : List (Nat × Nat)} {f thin rgt snd : Nat} {pr pr' : Nat → Nat} {lk lk' : Nat → Int} {K : Nat} (h : GsOk u D f thin rgt snd pr lk K) (h1 : gA u' 0 = gA u 0) (h2 : gL u' 0 = gL u 0) (hp : ∀ i, i < 7 → pr' i = pr i) (hl : ∀ i, i < 4 * K → lk' i = lk i) : GsOk u' D f thin rgt snd pr' lk' K := by
  have e : (fun g => wL D f thin rgt snd pr' lk' g K) = (fun g => wL D f thin rgt snd pr lk g K) := funext fun g => wL_cg hp hl g K (Nat.le_refl _)
  refine ⟨fun g hg => ?_, ?_⟩
  · rw [h1, wL_cg hp hl g K (Nat.le_refl _)]; exact h.1 g hg
  · rw [h2, e]; exact h.2
def vPart (a1 a2 a3 : Int32) : Prop := (1 ≤ a1.toInt ∧ a1.toInt ≤ 99) ∧ (1 ≤ a2.toInt ∧ a2.toInt ≤ 99) ∧ 0 ≤ a3.toInt ∧ a3.toInt ≤ 10
/-! fault -/
def vNone (a2 a3 : Int32) : Prop := a2.toInt = -1 ∧ a3.toInt = 0
def vFault (a1 a2 a3 : Int32) : Prop := (0 ≤ a1.toInt ∧ a1.toInt ≤ 3) ∧ (vNone a2 a3 ∨ ((0 ≤ a2.toInt ∧ a2.toInt ≤ 6) ∧ 1 ≤ a3.toInt ∧ a3.toInt ≤ 3))
theorem m1_eq (a : Int32) : a = -1 ↔ a.toInt = -1 := by rw [z_eq]; rfl
theorem z0_eq (a : Int32) : a = 0 ↔ a.toInt = 0 := by rw [z_eq]; rfl
theorem e_fault5F {u : KS} {a1 a2 a3 : Int32} (c : ¬ vFault a1 a2 a3) : mX5_fault u a1 a2 a3 = some (-2, b5 u 0) := by
  unfold vFault vNone at c
  unfold mX5_fault
  simp only [e_isFault, bs, b_i2, e_bad5]
  repeat' split
  all_goals first | rfl | (exfalso; (simp only [z_lt, z_le, z_gt, z_ge, z_eq, zm1, zm2, Int32.reduceToInt] at *; omega))
theorem e_fault5T {u : KS} {a1 a2 a3 : Int32} (c : vFault a1 a2 a3) : ∃ x : Int32, (x = if a2.toInt = -1 then -1 else 3 * a2 + a3 - 1) ∧ mX5_fault u a1 a2 a3 = some (1, sR u 4 (upd (gR u 4) a1.toInt.toNat x)) := by
  refine ⟨_, rfl, ?_⟩
  unfold vFault vNone at c
  unfold mX5_fault mX5_faultOf
  simp only [e_isFault, bs, b_i2, e_bad5, e_set (show 4 < 2147483648 by decide)]
  rw [if_pos (show 0 ≤ a1.toInt ∧ a1.toInt < ((4 : Nat) : Int) by omega), if_pos (show 0 ≤ a1.toInt ∧ a1.toInt < ((4 : Nat) : Int) by omega)]
  by_cases h : a2.toInt = -1
  · rw [if_pos ((m1_eq a2).mpr h), if_pos h, if_pos ((z0_eq a3).mpr (by omega)), if_neg (by (simp only [z_lt, z_le, z_gt, z_ge, z_eq, zm1, zm2, Int32.reduceToInt] at *; omega)), if_neg (by (simp only [z_lt, z_le, z_gt, z_ge, z_eq, zm1, zm2, Int32.reduceToInt] at *; omega))]
  · rw [if_neg (fun q => h ((m1_eq a2).mp q)), if_neg h, if_neg (by (simp only [z_lt, z_le, z_gt, z_ge, z_eq, zm1, zm2, Int32.reduceToInt] at *; omega)), if_neg (by (simp only [z_lt, z_le, z_gt, z_ge, z_eq, zm1, zm2, Int32.reduceToInt] at *; omega)), if_pos (by omega)]
