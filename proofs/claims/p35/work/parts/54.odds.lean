/-! odds, two, likeliest, next, leaks -/
def sel (W : Nat → Nat) (S : Nat → Bool) (n : Nat) : Nat := sm (fun g => if S g then W g else 0) n
theorem sel_le (W : Nat → Nat) (S : Nat → Bool) : ∀ n, sel W S n ≤ sm W n := by
  intro n
  induction n with
  | zero => exact Nat.le_refl _
  | succ n ih =>
    show sel W S n + (if S n then W n else 0) ≤ sm W n + W n
    split <;> omega
theorem fd_sel (W : Nat → Nat) (S : Nat → Bool) : ∀ n, fd (fun k (y : Int64) => if S k then y + lN (W k) else y) n 0 = lN (sel W S n) := by
  intro n
  induction n with
  | zero => rfl
  | succ n ih =>
    rw [fd_s, ih]
    show (if S n then lN (sel W S n) + lN (W n) else lN (sel W S n)) = lN (sel W S n + (if S n then W n else 0))
    split
    · rw [lN_add]
    · rw [Nat.add_zero]
def hasK (c d : Int32) (g : Nat) : Bool := (if fIn g c = -1 then (7 : Int32) else fIn g c / 3) == d
theorem hasK_T {c d : Int32} {g : Nat} : hasK c d g = true ↔ (if fIn g c = -1 then (7 : Int32) else fIn g c / 3) = d := by
  unfold hasK
  rw [beq_iff_eq]
theorem e_having {u : KS} {W : Nat → Nat} {c : Nat} (hc : c < 4) (hW : ∀ g, g < 2731 → gA u 0 g = lN (W g)) (d : Int32) : mX2_having u (nI c) d = some (lN (sel W (hasK (nI c) d) 2731)) := by
  have e := lp_fd0 (S := mX2_having_s5 u (nI c) d) (fun k (y : Int64) => (y, nI k)) (fun k y => if hasK (nI c) d k then y + lN (W k) else y) (fun y => y) 2731 0
    (fun k y hk => by
      unfold mX2_having_s5
      dsimp only
      rw [if_neg (show ¬ (2731 : Int32) ≤ nI k from nI_ge (b := 2731) hk (by decide)), e_faultIn hk hc, bs, i_s]
      simp only [gd_t (i_k hk (show 2731 < 2147483648 by decide)), show (nI k).toNatClampNeg = k from i_cl (by omega), hW k hk]
      by_cases h : hasK (nI c) d k = true
      · rw [if_pos h]
        have h2 := hasK_T.mp h
        by_cases h3 : fIn k (nI c) = -1
        · rw [if_pos h3] at h2
          rw [if_pos h3, if_pos h2]
        · rw [if_neg h3] at h2
          rw [if_neg h3, if_pos h2]
      · rw [if_neg h]
        have h2 : ¬ _ := fun z => h (hasK_T.mpr z)
        by_cases h3 : fIn k (nI c) = -1
        · rw [if_pos h3] at h2
          rw [if_pos h3, if_neg h2]
        · rw [if_neg h3] at h2
          rw [if_neg h3, if_neg h2])
    (fun y => by
      unfold mX2_having_s5
      dsimp only
      rw [if_pos (by decide)])
  rw [fd_sel] at e
  unfold mX2_having
  exact (congrArg (fun o => Option.bind o fun e => some e) e).trans rfl
/-- a loop over all guesses that opens each and adds some -/
theorem lp_gs {S : Int64 × Int32 × KS → Option ((Int64 × KS) ⊕ (Int64 × Int32 × KS))} {w0 : KS} {W : Nat → Nat} (P : Nat → Bool) (hst : ∀ (k : Nat) (w : KS) (y : Int64), k < 2731 → GF w0 w → gA w 0 = gA w0 0 → gL w 0 = gL w0 0 → S (y, nI k, w) = some (.inr (if P k then y + lN (W k) else y, nI (k + 1), opS w k))) (hen : ∀ (w : KS) (y : Int64), S (y, nI 2731, w) = some (.inl (y, w))) : ∃ w', lpF S (0, 0, w0) = some (lN (sel W P 2731), w') ∧ GF w0 w' ∧ gA w' 0 = gA w0 0 ∧ gL w' 0 = gL w0 0 := by
  have key : ∀ n k (w : KS), k + n = 2731 → GF w0 w → gA w 0 = gA w0 0 → gL w 0 = gL w0 0 → ∃ w', lpF S (lN (sel W P k), nI k, w) = some (lN (sel W P 2731), w') ∧ GF w0 w' ∧ gA w' 0 = gA w0 0 ∧ gL w' 0 = gL w0 0 := by
    intro n
    induction n with
    | zero =>
      intro k w h0 h1 h2 h3
      have h0 : k = 2731 := h0
      subst h0
      exact ⟨w, lp_stop (hen w _), h1, h2, h3⟩
    | succ n ih =>
      intro k w h0 h1 h2 h3
      have st := hst k w (lN (sel W P k)) (by omega) h1 h2 h3
      have e : (if P k then lN (sel W P k) + lN (W k) else lN (sel W P k)) = lN (sel W P (k + 1)) := by
        show _ = lN (sel W P k + (if P k then W k else 0))
        split
        · rw [lN_add]
        · rw [Nat.add_zero]
      rw [e] at st
      rw [lp_go st]
      exact ih (k + 1) _ (by omega) (h1.op k) h2 h3
  exact key 2731 0 w0 rfl (GF.rf w0) rfl rfl
theorem l_add0 (y : Int64) : y + 0 = y := Int64.add_zero y
theorem sel_from (W : Nat → Nat) (o : Nat) : ∀ n, fd (fun k (y : Int64) => y + lN (W (o + k))) n 0 = lN (sm (fun k => W (o + k)) n) := fun n => fd_sm (fun k => W (o + k)) n
theorem sm_shift (W : Nat → Nat) (o : Nat) : ∀ n, sm (fun k => W (o + k)) n ≤ sm W (o + n) := by
  intro n
  induction n with
  | zero => exact Nat.zero_le _
  | succ n ih =>
    show sm (fun k => W (o + k)) n + W (o + n) ≤ sm W (o + n) + W (o + n)
    omega
theorem cmp_le {a b : Nat} (ha : a < 9223372036854775808) (hb : b < 9223372036854775808) : (lg_cmp (lN a) (lN b) ≤ 0) ↔ a ≤ b := by
  rw [z_cmple, zl_le, zl_nN ha, zl_nN hb]
  omega
