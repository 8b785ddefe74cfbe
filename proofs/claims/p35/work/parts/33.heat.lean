/-! seeping, heating: as whole numbers of the machine first -/
def spM (c it : Int32) : Int32 := if it = 0 then c else if it = 3 then 3 * c else 0
def spS (c it : Int32) : Int32 := if it = 2 then 4 * c else if it = 1 then 1 else 0
def spH (c it h : Int32) : Int32 := if 30 < h + spM c it then 30 else h + spM c it
def spB (c it h : Int32) : Int32 := if spS c it < spH c it h then spS c it else spH c it h
theorem e_oil (c m : Int32) : mX0_oilPlace c m = some ((c - 1) * 120 + m) := rfl
theorem e_seep {u : KS} {n d : Nat} (h6 : gI u 6 = nI n) (hn : n ≤ 120) (hd : 1 ≤ d ∧ d ≤ 3) : mX0_seep u (nI d) = some (sR u 10 (fd (fun k (x : Int32 × (Nat → Int32)) => (spH (nI d) (gR u 8 k) x.1 - spB (nI d) (gR u 8 k) x.1, upd x.2 (120 * (d - 1) + k) (spB (nI d) (gR u 8 k) x.1))) n (0, gR u 10)).2) := by
  have e := lp_fd0 (S := mX0_seep_s4 (nI d)) (fun k (x : Int32 × (Nat → Int32)) => (x.1, nI k, sR u 10 x.2)) (fun k (x : Int32 × (Nat → Int32)) => (spH (nI d) (gR u 8 k) x.1 - spB (nI d) (gR u 8 k) x.1, upd x.2 (120 * (d - 1) + k) (spB (nI d) (gR u 8 k) x.1))) (fun x => sR u 10 x.2) n (0, gR u 10)
    (fun k x hk => by
      have e1 : (nI d - 1) * 120 + nI k = nI (120 * (d - 1) + k) := by
        rw [show (1 : Int32) = nI 1 from rfl, i_sub hd.1 (by omega), show (120 : Int32) = nI 120 from rfl, i_mul, i_add, Nat.mul_comm]
      have hset : ∀ y, mX5_set 360 (gR (sR u 10 x.2) 10) (nI (120 * (d - 1) + k)) y = some (upd x.2 (120 * (d - 1) + k) y) := fun y => e_setN (by decide) x.2 y (by omega)
      unfold mX0_seep_s4
      dsimp only
      rw [show gI (sR u 10 x.2) 6 = gI u 6 from rfl, h6, if_neg (nI_ge hk (by omega)), show gR (sR u 10 x.2) 8 = gR u 8 from rfl, e_atN (by decide) _ (by omega), bs, i_s]
      simp only [e_oil, bs, e1, hset, sR_sR]
      generalize gR u 8 k = it
      have n02 : ¬ (0 : Int32) = 2 := by decide
      have n01 : ¬ (0 : Int32) = 1 := by decide
      have n03 : ¬ (0 : Int32) = 3 := by decide
      have n32 : ¬ (3 : Int32) = 2 := by decide
      have n31 : ¬ (3 : Int32) = 1 := by decide
      have n30 : ¬ (3 : Int32) = 0 := by decide
      have n21 : ¬ (2 : Int32) = 1 := by decide
      unfold spB spH spM spS
      by_cases c0 : it = 0
      · subst c0
        simp only [if_neg n02, if_neg n01, if_pos rfl, if_true]
      · by_cases c3 : it = 3
        · subst c3
          simp only [if_neg n32, if_neg n31, if_neg n30, if_pos rfl, if_true]
        · by_cases c2 : it = 2
          · subst c2
            simp only [if_neg c0, if_neg c3, if_pos rfl, if_true]
          · by_cases c1 : it = 1
            · subst c1
              simp only [if_neg c0, if_neg c3, if_neg c2, if_pos rfl, if_true]
            · simp only [if_neg c0, if_neg c3, if_neg c2, if_neg c1])
    (fun x => by
      unfold mX0_seep_s4
      dsimp only
      rw [show gI (sR u 10 x.2) 6 = gI u 6 from rfl, h6, if_pos (Int32.le_refl _)])
  unfold mX0_seep
  have e0 : lpF (mX0_seep_s4 (nI d)) (0, 0, u) = _ := (congrArg (fun w => lpF (mX0_seep_s4 (nI d)) (0, 0, w)) (sR_self u 10).symm).trans e
  rw [e0]
  rfl

def hpM (it ld w : Int32) : Int32 := if it = 0 then (if w - 1 < 0 then 0 else w - 1) else (if 100 < w + 2 + ld / 3 then 100 else w + 2 + ld / 3)
theorem e_heat {u : KS} {n : Nat} (h6 : gI u 6 = nI n) (hn : n ≤ 120) (a : Int32) : mX0_heat u a = some (sR u 7 (upd (fd (fun k (x : Int32 × (Nat → Int32)) => (hpM (gR u 8 k) (gR u 9 k) x.1, upd x.2 k x.1)) n (a, gR u 7)).2 n (fd (fun k (x : Int32 × (Nat → Int32)) => (hpM (gR u 8 k) (gR u 9 k) x.1, upd x.2 k x.1)) n (a, gR u 7)).1)) := by
  have e := lp_fd0 (S := mX0_heat_s4) (fun k (x : Int32 × (Nat → Int32)) => (x.1, nI k, sR u 7 x.2)) (fun k (x : Int32 × (Nat → Int32)) => (hpM (gR u 8 k) (gR u 9 k) x.1, upd x.2 k x.1)) (fun x => (x.1, sR u 7 x.2)) n (a, gR u 7)
    (fun k x hk => by
      unfold mX0_heat_s4
      dsimp only
      rw [show gI (sR u 7 x.2) 6 = gI u 6 from rfl, h6, if_neg (nI_ge hk (by omega)), show gR (sR u 7 x.2) 7 = x.2 from rfl, e_setN (by decide) _ _ (by omega), bs, show gR (sR u 7 x.2) 8 = gR u 8 from rfl, e_atN (by decide) _ (by omega), bs, show gR (sR u 7 x.2) 9 = gR u 9 from rfl, e_atN (by decide) _ (by omega), bs, i_s, sR_sR]
      unfold hpM
      by_cases c : gR u 8 k = 0
      · rw [if_pos c, if_pos c]
      · rw [if_neg c, if_neg c])
    (fun x => by
      unfold mX0_heat_s4
      dsimp only
      rw [show gI (sR u 7 x.2) 6 = gI u 6 from rfl, h6, if_pos (Int32.le_refl _)])
  unfold mX0_heat
  have e0 : lpF mX0_heat_s4 (a, 0, u) = _ := (congrArg (fun w => lpF mX0_heat_s4 (a, 0, w)) (sR_self u 7).symm).trans e
  rw [e0, bs]
  dsimp only
  generalize fd (fun k (x : Int32 × (Nat → Int32)) => (hpM (gR u 8 k) (gR u 9 k) x.1, upd x.2 k x.1)) n (a, gR u 7) = y
  rw [show gR (sR u 7 y.2) 7 = y.2 from rfl, show gI (sR u 7 y.2) 6 = gI u 6 from rfl, h6, e_setN (by decide) _ _ (by omega), bs, sR_sR]
/-! and as natural numbers -/
theorem oh_le (D : List (Nat × Nat)) (d : Nat) : ∀ m, oh D d m ≤ 30 := by
  intro m
  cases m with
  | zero => exact Nat.zero_le _
  | succ m => unfold oh; omega
theorem sp_nat {D : List (Nat × Nat)} {d m : Nat} (hd : d ≤ 3) (hD : WD D) : spH (nI d) (nI (dH D m)) (nI (oh D d m)) = nI (min (oh D d m + omo D d m) 30) ∧ spB (nI d) (nI (dH D m)) (nI (oh D d m)) = nI (ob D d m) := by
  have h3 := (hD.2 m).1
  have hh := oh_le D d m
  have eM : spM (nI d) (nI (dH D m)) = nI (omo D d m) := by
    unfold spM omo
    by_cases c0 : dH D m = 0
    · rw [if_pos ((nI_q0 h3).mpr c0), if_pos c0]
    · rw [if_neg (fun q => c0 ((nI_q0 h3).mp q)), if_neg c0]
      by_cases c3 : dH D m = 3
      · rw [if_pos ((nI_q3 h3).mpr c3), if_pos c3]; exact i_mul 3 d
      · rw [if_neg (fun q => c3 ((nI_q3 h3).mp q)), if_neg c3]; rfl
  have eS : spS (nI d) (nI (dH D m)) = nI (oms D d m) := by
    unfold spS oms
    by_cases c0 : dH D m = 2
    · rw [if_pos ((nI_q2 h3).mpr c0), if_pos c0]; exact i_mul 4 d
    · rw [if_neg (fun q => c0 ((nI_q2 h3).mp q)), if_neg c0]
      by_cases c3 : dH D m = 1
      · rw [if_pos (show nI (dH D m) = (1 : Int32) by rw [c3]; rfl), if_pos c3]; rfl
      · rw [if_neg (show ¬ nI (dH D m) = (1 : Int32) from fun q => c3 ((nI_eqS h3 (b := 1) (by decide)).mp q)), if_neg c3]; rfl
  have mo : omo D d m ≤ 9 := by
    unfold omo
    repeat' split
    all_goals omega
  have ms : oms D d m ≤ 12 := by
    unfold oms
    repeat' split
    all_goals omega
  have eH : spH (nI d) (nI (dH D m)) (nI (oh D d m)) = nI (min (oh D d m + omo D d m) 30) := by
    unfold spH
    rw [eM, i_add]
    by_cases c : 30 < oh D d m + omo D d m
    · rw [if_pos (show (30 : Int32) < nI (oh D d m + omo D d m) from nI_lt (a := 30) c (by omega)), Nat.min_eq_right (by omega)]; rfl
    · rw [if_neg (show ¬ (30 : Int32) < nI (oh D d m + omo D d m) from nI_nlt (a := 30) (by omega) (by decide)), Nat.min_eq_left (by omega)]
  refine ⟨eH, ?_⟩
  unfold spB ob
  rw [eH, eS]
  by_cases c : oms D d m < min (oh D d m + omo D d m) 30
  · rw [if_pos (nI_lt c (by omega)), Nat.min_eq_right (by omega)]
  · rw [if_neg (nI_nlt (by omega) (by omega)), Nat.min_eq_left (show min (oh D d m + omo D d m) 30 ≤ oms D d m by omega)]
theorem sp_fd {D : List (Nat × Nat)} {d n : Nat} {H F0 : Nat → Int32} (hd : d ≤ 3) (hD : WD D) (hH : ∀ m, m < n → H m = nI (dH D m)) : ∀ k, k ≤ n → fd (fun k (x : Int32 × (Nat → Int32)) => (spH (nI d) (H k) x.1 - spB (nI d) (H k) x.1, upd x.2 (120 * (d - 1) + k) (spB (nI d) (H k) x.1))) k (0, F0) = (nI (oh D d k), fd (fun k x => upd x (120 * (d - 1) + k) (nI (ob D d k))) k F0) := by
  intro k
  induction k with
  | zero => intro _; rfl
  | succ k ih =>
    intro hk
    rw [fd_s, ih (by omega)]
    dsimp only
    obtain ⟨e1, e2⟩ := sp_nat (m := k) hd hD
    rw [hH k (by omega), e1, e2, fd_s, i_sub (by unfold ob; omega) (by omega)]
    rfl
theorem wm_le (D : List (Nat × Nat)) {f : Nat} (hf : f ≤ 100) : ∀ m, wm D f m ≤ 100 := by
  intro m
  induction m with
  | zero => exact hf
  | succ m ih => unfold wm; split <;> omega
theorem hp_nat {D : List (Nat × Nat)} {f m : Nat} (hf : f ≤ 100) (hD : WD D) : hpM (nI (dH D m)) (nI (dL D m)) (nI (wm D f m)) = nI (wm D f (m + 1)) := by
  have h3 := hD.2 m
  have hw := wm_le D hf m
  have hl : dL D m ≤ 9 := by
    by_cases c : dH D m = 2
    · exact (h3.2.1 c).2
    · rw [h3.2.2 c]; decide
  show _ = nI (if dH D m = 0 then wm D f m - 1 else min 100 (wm D f m + 2 + dL D m / 3))
  unfold hpM
  by_cases c0 : dH D m = 0
  · rw [if_pos ((nI_q0 h3.1).mpr c0), if_pos c0]
    by_cases c1 : wm D f m = 0
    · rw [c1]; decide
    · have e : nI (wm D f m) - 1 = nI (wm D f m - 1) := by rw [show (1 : Int32) = nI 1 from rfl, i_sub (by omega) (by omega)]
      rw [e, if_neg (nI_pos (by omega))]
  · rw [if_neg (fun q => c0 ((nI_q0 h3.1).mp q)), if_neg c0]
    have e3 : nI (dL D m) / 3 = nI (dL D m / 3) := by
      generalize dL D m = y at hl
      rcases (show y = 0 ∨ y = 1 ∨ y = 2 ∨ y = 3 ∨ y = 4 ∨ y = 5 ∨ y = 6 ∨ y = 7 ∨ y = 8 ∨ y = 9 by omega) with h | h | h | h | h | h | h | h | h | h <;> subst h <;> decide
    have e : nI (wm D f m) + 2 + nI (dL D m) / 3 = nI (wm D f m + 2 + dL D m / 3) := by
      rw [e3, show (2 : Int32) = nI 2 from rfl, i_add, i_add]
    rw [e]
    by_cases c : 100 < wm D f m + 2 + dL D m / 3
    · rw [if_pos (show (100 : Int32) < _ from nI_lt (a := 100) c (by omega)), Nat.min_eq_left (by omega)]; rfl
    · rw [if_neg (show ¬ (100 : Int32) < _ from nI_nlt (a := 100) (by omega) (by decide)), Nat.min_eq_right (by omega)]
theorem hp_fd {D : List (Nat × Nat)} {f n : Nat} {H G F0 : Nat → Int32} (hf : f ≤ 100) (hD : WD D) (hH : ∀ m, m < n → H m = nI (dH D m)) (hG : ∀ m, m < n → G m = nI (dL D m)) : ∀ k, k ≤ n → fd (fun k (x : Int32 × (Nat → Int32)) => (hpM (H k) (G k) x.1, upd x.2 k x.1)) k (nI f, F0) = (nI (wm D f k), fd (fun k x => upd x k (nI (wm D f k))) k F0) := by
  intro k
  induction k with
  | zero => intro _; rfl
  | succ k ih =>
    intro hk
    rw [fd_s, ih (by omega)]
    dsimp only
    rw [hH k (by omega), hG k (by omega), hp_nat hf hD, fd_s]
theorem e_heatD {u : KS} {D : List (Nat × Nat)} {f : Nat} (hA : Dar u D) (hf : f ≤ 100) (hD : WD D) : ∃ F, mX0_heat u (nI f) = some (sR u 7 F) ∧ ∀ m, m ≤ D.length → F m = nI (wm D f m) := by
  obtain ⟨h6, hl, hm⟩ := hA
  refine ⟨_, e_heat h6 hl (nI f), fun m hm2 => ?_⟩
  rw [hp_fd hf hD (fun m h => (hm m h).1) (fun m h => (hm m h).2) D.length (Nat.le_refl _)]
  dsimp only
  by_cases c : m = D.length
  · rw [c, u_is]
  · rw [u_no _ _ _ c, fd_up0 (fun k => nI (wm D f k)), if_pos (by omega)]
theorem e_seepD {u : KS} {D : List (Nat × Nat)} {d : Nat} (hA : Dar u D) (hd : 1 ≤ d ∧ d ≤ 3) (hD : WD D) : ∃ F, mX0_seep u (nI d) = some (sR u 10 F) ∧ (∀ m, m < D.length → F (120 * (d - 1) + m) = nI (ob D d m)) ∧ ∀ j, j < 120 * (d - 1) → F j = gR u 10 j := by
  obtain ⟨h6, hl, hm⟩ := hA
  refine ⟨_, e_seep h6 hl hd, ?_, ?_⟩
  · intro m hm2
    rw [sp_fd hd.2 hD (fun m h => (hm m h).1) D.length (Nat.le_refl _)]
    dsimp only
    rw [fd_up (120 * (d - 1)) (fun k => nI (ob D d k)), if_pos (by omega), Nat.add_sub_cancel_left]
  · intro j hj
    rw [sp_fd hd.2 hD (fun m h => (hm m h).1) D.length (Nat.le_refl _)]
    dsimp only
    rw [fd_up (120 * (d - 1)) (fun k => nI (ob D d k)), if_neg (by omega)]
