/-! leaks -/
def bn (D : List (Nat × Nat)) (f a : Nat) : Nat := sm (fun m => gv D f a m 0) D.length
theorem bn_le {D : List (Nat × Nat)} {f a : Nat} (hD : WD D) (hf : f ≤ 100) (ha : a < 21) : bn D f a ≤ 12000 := by
  have := sm_le (f := fun m => gv D f a m 0) (b := 100) D.length (fun m _ => Nat.le_of_lt (gv_le 0 hD hf ha))
  have hDl := hD.1
  have : D.length * 100 ≤ 120 * 100 := Nat.mul_le_mul_right _ hDl
  unfold bn
  omega
theorem fd_smI (w : Nat → Nat) : ∀ n, fd (fun k y => y + nI (w k)) n (0 : Int32) = nI (sm w n) := by
  intro n
  induction n with
  | zero => rfl
  | succ n ih => rw [fd_s, ih, i_add]; rfl
theorem e_bb13 {u : KS} {D : List (Nat × Nat)} {f a : Nat} (hD : WD D) (hf : f ≤ 100) (h : DR u D f) (ha : a < 21) : lpF (mX0_bringBurnt_s13 u (nI a)) (0, 0) = some (nI (bn D f a)) := by
  have hDl := hD.1
  have e := lp_fd0 (S := mX0_bringBurnt_s13 u (nI a)) (fun k (y : Int32) => (y, nI k)) (fun k y => y + nI (gv D f a k 0)) (fun y => y) D.length 0
    (fun k y hk => by
      unfold mX0_bringBurnt_s13
      dsimp only
      rw [h.1, if_neg (nI_ge hk (by omega)), show mX0_given u (nI a) (nI k) 0 = mX0_given u (nI a) (nI k) (nI 0) from rfl, e_given5 hD hf h ha hk (by decide), bs, i_s])
    (fun y => by
      unfold mX0_bringBurnt_s13
      dsimp only
      rw [h.1, if_pos (Int32.le_refl _)])
  rw [fd_smI] at e
  exact e
theorem e_burnt5 {u : KS} {D : List (Nat × Nat)} {f : Nat} (hD : WD D) (hf : f ≤ 100) (h : DR u D f) : ∃ F, mX0_bringBurnt u = some (sR u 11 F) ∧ ∀ a, a < 21 → F a = nI (bn D f a) := by
  have e := lp_fd0 (S := mX0_bringBurnt_s2) (fun k (y : Nat → Int32) => (nI k, sR u 11 y)) (fun k y => upd y (0 + k) (nI (bn D f k))) (fun y => sR u 11 y) 21 (gR u 11)
    (fun k y hk => by
      unfold mX0_bringBurnt_s2
      dsimp only
      rw [if_neg (show ¬ (21 : Int32) ≤ nI k from nI_ge (b := 21) hk (by decide)), e_bb13 (u := sR u 11 y) hD hf h hk, bs, gd_t (i_k hk (by decide)), i_cl (by omega), i_s, sR_sR, Nat.zero_add]
      rfl)
    (fun y => by
      unfold mX0_bringBurnt_s2
      dsimp only
      rw [if_pos (by decide)])
  rw [sR_self] at e
  refine ⟨_, by
    unfold mX0_bringBurnt
    exact (congrArg (fun o => Option.bind o fun e => some e) e).trans rfl, fun a ha => ?_⟩
  rw [fd_up 0 (fun k => nI (bn D f k)), if_pos (by omega)]
  rfl
def lsS (e : Nat → Nat) (t g : Nat) : Bool := decide (am e 4 g < t)
theorem e_below {u : KS} {W e : Nat → Nat} {t : Nat} (ht : t ≤ 99999) (he : ∀ a, a < 21 → e a ≤ 12000) (hA : ∀ g, g < 2731 → gA u 0 g = lN (W g)) (hR : ∀ g, g < 2731 → gR u 12 g = nI (am e 4 g)) : mX2_below u (nI t) = some (lN (sel W (lsS e t) 2731)) := by
  have eq := lp_fd0 (S := mX2_below_s5 u (nI t)) (fun k (y : Int64) => (y, nI k)) (fun k y => if lsS e t k then y + lN (W k) else y) (fun y => y) 2731 0
    (fun k y hk => by
      have hle := am_le 4 he hk
      have hc : (nI t ≤ nI (am e 4 k)) ↔ t ≤ am e 4 k := nI_leI (by omega) (by omega)
      unfold mX2_below_s5
      dsimp only
      rw [if_neg (show ¬ (2731 : Int32) ≤ nI k from nI_ge (b := 2731) hk (by decide)), e_atN (by decide) _ hk, bs, hR k hk, gd_t (i_k hk (by decide)), i_cl (by omega), hA k hk, i_s]
      unfold lsS
      by_cases c : t ≤ am e 4 k
      · rw [if_pos (hc.mpr c), if_neg (by rw [decide_eq_true_iff]; omega)]
      · rw [if_neg (fun z => c (hc.mp z)), if_pos (by rw [decide_eq_true_iff]; omega)])
    (fun y => by
      unfold mX2_below_s5
      dsimp only
      rw [if_pos (by decide)])
  rw [fd_sel] at eq
  unfold mX2_below
  exact (congrArg (fun o => Option.bind o fun e => some e) eq).trans rfl
