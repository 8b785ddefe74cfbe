/-! what a fault gives, in the class -/
def DR (u : KS) (D : List (Nat × Nat)) (f : Nat) : Prop := gI u 6 = nI D.length ∧ (∀ m, m < D.length → gR u 8 m = nI (dH D m) ∧ gR u 9 m = nI (dL D m) ∧ ∀ d, 1 ≤ d → d ≤ 3 → gR u 10 (120 * (d - 1) + m) = nI (ob D d m)) ∧ ∀ m, m ≤ D.length → gR u 7 m = nI (wm D f m)
theorem dv3 : ∀ a, a < 21 → nI a / 3 = nI (a / 3) ∧ nI a - nI (a / 3) * 3 + 1 = nI (a % 3 + 1) := by decide +kernel
theorem e_blue : ∀ k, k < 7 → ∀ d, d < 4 → ∀ l, l < 10 → mX0_blue (nI k) (nI d) (nI l) = some (nI (if k = 0 then d * l else if k = 6 then d * l / 2 else 0)) := by decide +kernel
theorem e_sweet : ∀ k, k < 7 → ∀ d, d < 4 → ∀ w, w < 101 → mX0_sweet (nI k) (nI d) (nI w) = some (nI (gS k d w)) := by decide +kernel
theorem e_sharp : ∀ d, d < 4 → ∀ l, l < 10 → ∀ w, w < 101 → mX0_sharp (nI d) (nI l) (nI w) = some (nI (d * (100 - w) / 20 / 2 + (if l = 0 then d else 0))) := by decide +kernel
theorem e_black : ∀ k, k < 7 → ∀ d, d < 4 → ∀ l, l < 10 → mX0_black (nI k) (nI d) (nI l) = some (nI (gK k d l)) := by decide +kernel
theorem WD_l {D : List (Nat × Nat)} (h : WD D) (m : Nat) : dL D m < 10 := by
  have := h.2 m
  by_cases c : dH D m = 2
  · have := this.2.1 c; omega
  · have := this.2.2 c; omega
theorem e_given5 {u : KS} {D : List (Nat × Nat)} {f a m c : Nat} (hD : WD D) (hf : f ≤ 100) (h : DR u D f) (ha : a < 21) (hm : m < D.length) (hc : c < 4) : mX0_given u (nI a) (nI m) (nI c) = some (nI (gv D f a m c)) := by
  have hDl := hD.1
  obtain ⟨r8, r9, r10⟩ := h.2.1 m hm
  have r7 := h.2.2 m (Nat.le_of_lt hm)
  have hl := WD_l hD m
  have hw : wm D f m < 101 := by have := wm_le D hf m; omega
  have h0 := hD.2 m
  obtain ⟨d1, d2⟩ := dv3 a ha
  obtain ⟨k, hk⟩ : ∃ k, a / 3 = k := ⟨_, rfl⟩
  obtain ⟨d, hd⟩ : ∃ d, a % 3 + 1 = d := ⟨_, rfl⟩
  have hk7 : k < 7 := by omega
  have hd3 : 1 ≤ d ∧ d < 4 := by omega
  unfold mX0_given gv
  rw [e_atN (by decide) _ (by omega), bs, r8, d1, d2, hk, hd]
  have e0 : (nI (dH D m) = 0) ↔ dH D m = 0 := nI_eq (b := 0) (by omega) (by decide)
  by_cases c0 : dH D m = 0
  · rw [if_pos (e0.mpr c0), if_pos c0]; rfl
  rw [if_neg (fun q => c0 (e0.mp q)), if_neg c0, e_atN (by decide) _ (by omega), bs, r9]
  rcases (show c = 0 ∨ c = 1 ∨ c = 2 ∨ c = 3 by omega) with q | q | q | q <;> subst q
  · rw [if_pos (show nI 0 = 0 from rfl), if_pos rfl]
    have e1 : (nI k = 1) ↔ k = 1 := nI_eq (b := 1) (by omega) (by decide)
    unfold gB
    by_cases c1 : k = 1
    · have eo : mX0_oilPlace (nI d) (nI m) = some (nI (120 * (d - 1) + m)) := by
        unfold mX0_oilPlace
        rw [show (1 : Int32) = nI 1 from rfl, i_sub hd3.1 (by omega), show (120 : Int32) = nI 120 from rfl, i_mul, i_add, Nat.mul_comm]
      rw [if_pos (e1.mpr c1), eo, bs, e_atN (by decide) _ (by omega), bs, r10 d hd3.1 (by omega), if_neg (by omega), if_pos c1]
    · rw [if_neg (fun q => c1 (e1.mp q)), e_blue k hk7 d hd3.2 _ hl, bs]
      by_cases c2 : k = 0
      · rw [if_pos c2, if_pos c2]
      · rw [if_neg c2, if_neg c2, if_neg c1]
  · rw [if_neg (show ¬ nI 1 = 0 by decide), if_pos (show nI 1 = 1 from rfl), if_neg (show ¬ (1 : Nat) = 0 by decide), if_pos (show (1 : Nat) = 1 from rfl), e_atN (by decide) _ (by omega), bs, r7, e_sweet k hk7 d hd3.2 _ hw, bs]
  · rw [if_neg (show ¬ nI 2 = 0 by decide), if_neg (show ¬ nI 2 = 1 by decide), if_pos (show nI 2 = 2 from rfl), if_neg (show ¬ (2 : Nat) = 0 by decide), if_neg (show ¬ (2 : Nat) = 1 by decide), if_pos (show (2 : Nat) = 2 from rfl)]
    have e3 : (nI k = 3) ↔ k = 3 := nI_eq (b := 3) (by omega) (by decide)
    unfold gH
    by_cases c1 : k = 3
    · rw [if_pos (e3.mpr c1), if_pos c1, e_atN (by decide) _ (by omega), bs, r7, e_sharp d hd3.2 _ hl _ hw, bs]
    · rw [if_neg (fun q => c1 (e3.mp q)), if_neg c1]; rfl
  · rw [if_neg (show ¬ nI 3 = 0 by decide), if_neg (show ¬ nI 3 = 1 by decide), if_neg (show ¬ nI 3 = 2 by decide), if_neg (show ¬ (3 : Nat) = 0 by decide), if_neg (show ¬ (3 : Nat) = 1 by decide), if_neg (show ¬ (3 : Nat) = 2 by decide), e_black k hk7 d hd3.2 _ hl, bs]
theorem gK_le : ∀ k, k < 7 → ∀ d, d < 4 → ∀ l, l < 10 → gK k d l < 100 := by decide +kernel
theorem gS_le : ∀ k, k < 7 → ∀ d, d < 4 → ∀ w, w < 101 → gS k d w < 100 := by decide +kernel
theorem gH_le : ∀ k, k < 7 → ∀ d, d < 4 → ∀ l, l < 10 → ∀ w, w < 101 → gH k d l w < 100 := by decide +kernel
theorem gb_le : ∀ d, d < 4 → ∀ l, l < 10 → d * l < 100 := by decide +kernel
theorem gv_le {D : List (Nat × Nat)} {f a m : Nat} (c : Nat) (hD : WD D) (hf : f ≤ 100) (ha : a < 21) : gv D f a m c < 100 := by
  have hl := WD_l hD m
  have hw : wm D f m < 101 := by have := wm_le D hf m; omega
  have hd : a % 3 + 1 < 4 := by omega
  have hk : a / 3 < 7 := by omega
  have h1 := gK_le _ hk _ hd _ hl
  have h2 := gS_le _ hk _ hd _ hw
  have h3 := gH_le _ hk _ hd _ hl _ hw
  have h4 := gb_le _ hd _ hl
  unfold gv
  split
  · decide
  · split
    · unfold gB
      split
      · exact h4
      · split
        · unfold ob; omega
        · split
          · omega
          · decide
    · split
      · exact h2
      · split
        · exact h3
        · exact h1
/-! the model lays out what each fault gives -/
def lay (l w k d c : Nat) : Nat := if c = 0 then (if k = 0 then d * l else if k = 6 then d * l / 2 else 0) else if c = 1 then gS k d w else if c = 2 then gH k d l w else gK k d l
theorem lay1 {F0 G : Nat → Int32} {g : Nat → Nat} {o c0 : Nat} {val : Int32} (hF : ∀ j, F0 j = if o ≤ j ∧ j < o + 4 then 0 else G j) (hc : c0 < 4) (hv : val = nI (g c0)) (hg : ∀ c, c < 4 → c ≠ c0 → g c = 0) : ∀ j, upd F0 (o + c0) val j = if o ≤ j ∧ j < o + 4 then nI (g (j - o)) else G j := by
  intro j
  by_cases c : j = o + c0
  · rw [c, u_is, if_pos (by omega), Nat.add_sub_cancel_left]; exact hv
  · rw [u_no _ _ _ c, hF j]
    by_cases c2 : o ≤ j ∧ j < o + 4
    · rw [if_pos c2, if_pos c2, hg (j - o) (by omega) (by omega)]; rfl
    · rw [if_neg c2, if_neg c2]
theorem lay0 {F0 G : Nat → Int32} {g : Nat → Nat} {o : Nat} (hF : ∀ j, F0 j = if o ≤ j ∧ j < o + 4 then 0 else G j) (hg : ∀ c, c < 4 → g c = 0) : ∀ j, F0 j = if o ≤ j ∧ j < o + 4 then nI (g (j - o)) else G j := by
  intro j
  rw [hF j]
  by_cases c2 : o ≤ j ∧ j < o + 4
  · rw [if_pos c2, if_pos c2, hg (j - o) (by omega)]; rfl
  · rw [if_neg c2, if_neg c2]
theorem crk : ∀ d, d < 4 → ∀ w, w < 101 → nI d * (100 - nI w) / 20 = nI (d * (100 - w) / 20) := by decide +kernel
theorem crk2 : ∀ x, x < 16 → nI x / 2 = nI (x / 2) := by decide +kernel
theorem crkl : ∀ d, d < 4 → ∀ w, w < 101 → d * (100 - w) / 20 < 16 := by decide +kernel
theorem hlf : ∀ d, d < 4 → ∀ l, l < 10 → nI d * nI l / 2 = nI (d * l / 2) := by decide +kernel
