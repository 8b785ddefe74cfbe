/-! odds, two, likeliest, next, leaks -/
def sel (W : Nat → Nat) (S : Nat → Bool) (n : Nat) : Nat := sm (fun g => if S g then W g else 0) n
theorem sel_le (W : Nat → Nat) (S : Nat → Bool) : ∀ n, sel W S n ≤ sm W n := by
  intro n
  induction n with
  | zero => exact Nat.le_refl _
  | succ n ih =>
    show sel W S n + (if S n then W n else 0) ≤ sm W n + W n
    split <;> omega
theorem fd_sel (W : Nat → Nat) (S : Nat → Bool) : ∀ n, fd (fun k (y : Int64) => if S k then y + lN (W k) else y) n 0 = lN (sel W S n) := by
  intro n
  induction n with
  | zero => rfl
  | succ n ih =>
    rw [fd_s, ih]
    show (if S n then lN (sel W S n) + lN (W n) else lN (sel W S n)) = lN (sel W S n + (if S n then W n else 0))
    split
    · rw [lN_add]
    · rw [Nat.add_zero]
def hasK (c d : Int32) (g : Nat) : Bool := (if fIn g c = -1 then (7 : Int32) else fIn g c / 3) == d
theorem hasK_T {c d : Int32} {g : Nat} : hasK c d g = true ↔ (if fIn g c = -1 then (7 : Int32) else fIn g c / 3) = d := by
  unfold hasK
  rw [beq_iff_eq]
theorem e_having {u : KS} {W : Nat → Nat} {c : Nat} (hc : c < 4) (hW : ∀ g, g < 2731 → gA u 0 g = lN (W g)) (d : Int32) : mX2_having u (nI c) d = some (lN (sel W (hasK (nI c) d) 2731)) := by
  have e := lp_fd0 (S := mX2_having_s5 u (nI c) d) (fun k (y : Int64) => (y, nI k)) (fun k y => if hasK (nI c) d k then y + lN (W k) else y) (fun y => y) 2731 0
    (fun k y hk => by
      unfold mX2_having_s5
      dsimp only
      rw [if_neg (show ¬ (2731 : Int32) ≤ nI k from nI_ge (b := 2731) hk (by decide)), e_faultIn hk hc, bs, i_s]
      simp only [gd_t (i_k hk (show 2731 < 2147483648 by decide)), show (nI k).toNatClampNeg = k from i_cl (by omega), hW k hk]
      by_cases h : hasK (nI c) d k = true
      · rw [if_pos h]
        have h2 := hasK_T.mp h
        by_cases h3 : fIn k (nI c) = -1
        · rw [if_pos h3] at h2
          rw [if_pos h3, if_pos h2]
        · rw [if_neg h3] at h2
          rw [if_neg h3, if_pos h2]
      · rw [if_neg h]
        have h2 : ¬ _ := fun z => h (hasK_T.mpr z)
        by_cases h3 : fIn k (nI c) = -1
        · rw [if_pos h3] at h2
          rw [if_pos h3, if_neg h2]
        · rw [if_neg h3] at h2
          rw [if_neg h3, if_neg h2])
    (fun y => by
      unfold mX2_having_s5
      dsimp only
      rw [if_pos (by decide)])
  rw [fd_sel] at e
  unfold mX2_having
  exact (congrArg (fun o => Option.bind o fun e => some e) e).trans rfl
/-- a loop over all guesses that opens each and adds some -/
theorem lp_gs {S : Int64 × Int32 × KS → Option ((Int64 × KS) ⊕ (Int64 × Int32 × KS))} {w0 : KS} {W : Nat → Nat} (P : Nat → Bool) (hst : ∀ (k : Nat) (w : KS) (y : Int64), k < 2731 → GF w0 w → gA w 0 = gA w0 0 → gL w 0 = gL w0 0 → S (y, nI k, w) = some (.inr (if P k then y + lN (W k) else y, nI (k + 1), opS w k))) (hen : ∀ (w : KS) (y : Int64), S (y, nI 2731, w) = some (.inl (y, w))) : ∃ w', lpF S (0, 0, w0) = some (lN (sel W P 2731), w') ∧ GF w0 w' ∧ gA w' 0 = gA w0 0 ∧ gL w' 0 = gL w0 0 := by
  have key : ∀ n k (w : KS), k + n = 2731 → GF w0 w → gA w 0 = gA w0 0 → gL w 0 = gL w0 0 → ∃ w', lpF S (lN (sel W P k), nI k, w) = some (lN (sel W P 2731), w') ∧ GF w0 w' ∧ gA w' 0 = gA w0 0 ∧ gL w' 0 = gL w0 0 := by
    intro n
    induction n with
    | zero =>
      intro k w h0 h1 h2 h3
      have h0 : k = 2731 := h0
      subst h0
      exact ⟨w, lp_stop (hen w _), h1, h2, h3⟩
    | succ n ih =>
      intro k w h0 h1 h2 h3
      have st := hst k w (lN (sel W P k)) (by omega) h1 h2 h3
      have e : (if P k then lN (sel W P k) + lN (W k) else lN (sel W P k)) = lN (sel W P (k + 1)) := by
        show _ = lN (sel W P k + (if P k then W k else 0))
        split
        · rw [lN_add]
        · rw [Nat.add_zero]
      rw [e] at st
      rw [lp_go st]
      exact ih (k + 1) _ (by omega) (h1.op k) h2 h3
  exact key 2731 0 w0 rfl (GF.rf w0) rfl rfl
theorem l_add0 (y : Int64) : y + 0 = y := Int64.add_zero y
theorem e_odds6 {w : KS} {W : Nat → Nat} (hW : ∀ g, g < 2731 → gA w 0 g = lN (W g)) (c d : Int32) (hc : c ≠ -1) : ∃ w', lpF (mX6_odds_s46 c d) (0, 0, w) = some (lN (sel W (hasK c d) 2731), w') ∧ GF w w' ∧ gA w' 0 = gA w 0 ∧ gL w' 0 = gL w 0 := by
  refine lp_gs (hasK c d) (fun k w1 y hk h1 h2 h3 => ?_) (fun w1 y => ?_)
  · have hy : gA w1 0 k = lN (W k) := by rw [h2]; exact hW k hk
    unfold mX6_odds_s46
    dsimp only
    rw [if_neg (show ¬ (2731 : Int32) ≤ nI k from nI_ge (b := 2731) hk (by decide)), e_opens hk, bs, show gI (opS w1 k) 6 = oneA k from rfl, show gI (opS w1 k) 7 = twoA k from rfl, show gI (opS w1 k) 8 = oneF k from rfl, show gI (opS w1 k) 9 = twoF k from rfl, show gA (opS w1 k) 0 = gA w1 0 from rfl, i_s, l_add0]
    simp only [gd_t (i_k hk (show 2731 < 2147483648 by decide)), show (nI k).toNatClampNeg = k from i_cl (by omega), hy]
    have hh : ∀ f : Int32, fIn k c = f → (hasK c d k = true ↔ (if f = -1 then (7 : Int32) else f / 3) = d) := fun f hf => by
      rw [← hf]; exact hasK_T
    have fin : ∀ f : Int32, fIn k c = f → (if f = -1 then (if (7 : Int32) = d then some (Sum.inr (y + lN (W k), nI (k + 1), opS w1 k)) else some (Sum.inr (y, nI (k + 1), opS w1 k))) else (if f / 3 = d then some (Sum.inr (y + lN (W k), nI (k + 1), opS w1 k)) else some (Sum.inr (y, nI (k + 1), opS w1 k)))) = (some (Sum.inr (if hasK c d k then y + lN (W k) else y, nI (k + 1), opS w1 k)) : Option ((Int64 × KS) ⊕ (Int64 × Int32 × KS))) := by
      intro f hf
      have h4 := hh f hf
      by_cases h : hasK c d k = true
      · have h2 := h4.mp h
        rw [if_pos h]
        by_cases h3 : f = -1
        · rw [if_pos h3] at h2; rw [if_pos h3, if_pos h2]
        · rw [if_neg h3] at h2; rw [if_neg h3, if_pos h2]
      · have h2 : ¬ _ := fun z => h (h4.mpr z)
        rw [if_neg h]
        by_cases h3 : f = -1
        · rw [if_pos h3] at h2; rw [if_pos h3, if_neg h2]
        · rw [if_neg h3] at h2; rw [if_neg h3, if_neg h2]
    by_cases d1 : oneA k = c
    · rw [if_pos d1]
      exact fin (oneF k) (by unfold fIn; rw [if_pos d1])
    · rw [if_neg d1]
      by_cases d2 : twoA k = c
      · rw [if_pos d2]
        exact fin (twoF k) (by unfold fIn; rw [if_neg d1, if_pos d2])
      · rw [if_neg d2]
        have h := fin (-1) (by unfold fIn; rw [if_neg d1, if_neg d2])
        rw [if_pos rfl] at h
        exact h
  · unfold mX6_odds_s46
    dsimp only
    rw [if_pos (by decide)]
theorem RelD.gf {u v v' : KS} {k0 k1 : Option KS} {L K P : Nat} (h : RelD u k0 k1 v L K P) (g : GF v v') : RelD u k0 k1 v' L K P := h.mf g.mf
theorem lm_odds : LM_odds Rel := by
  intro u k0 k1 v a1 a2 hR
  unfold mX5_odds mX6_odds
  rw [e_inc a1 0 3 (l := 0) (h := 3) rfl rfl, bs, b_i2, e_inc a2 0 7 (l := 0) (h := 7) rfl rfl, bs, b_i2]
  by_cases c : (0 ≤ a1.toInt ∧ a1.toInt ≤ 3) ∧ 0 ≤ a2.toInt ∧ a2.toInt ≤ 7
  · obtain ⟨c1, c2⟩ := c
    rw [if_neg (by (simp only [z_lt, z_le, z_gt, z_ge, z_eq, zm1, zm2, Int32.reduceToInt] at *; omega)), if_neg (by (simp only [z_lt, z_le, z_gt, z_ge, z_eq, zm1, zm2, Int32.reduceToInt] at *; omega)), if_neg (by (simp only [z_lt, z_le, z_gt, z_ge, z_eq, zm1, zm2, Int32.reduceToInt] at *; omega)), if_pos (by (simp only [z_lt, z_le, z_gt, z_ge, z_eq, zm1, zm2, Int32.reduceToInt] at *; omega)), if_pos c1, if_pos c2]
    obtain ⟨u', v', L, K, P, h1, h2, h3⟩ := rel_gs hR
    rcases h3 with ⟨p1, p2⟩ | ⟨D, p1, p2, hD, hf, hMP, hDR, hi1, hday, hA, hL, hMG, hs0, hs1⟩
    · rw [p1, p2, bs, bs]
      exact lm_n (u := u) (v := v) h1.rel h2 rfl rfl
    · obtain ⟨cc, hcc, rfl⟩ := n_ex (n := 3) c1
      rw [p1, p2, bs, bs]
      dsimp only
      rw [if_pos (show (0 : Int32) = 0 from rfl), if_neg (show ¬ (1 : Int32) = 0 by decide), e_having (by omega) hA a2, bs, hL]
      obtain ⟨w', q1, q2, q3, q4⟩ := e_odds6 hMG.1 (nI cc) a2 (nI_nm1 (by omega))
      rw [q1, bs]
      dsimp only
      rw [q4, hMG.2]
      have hsl := sel_le (BW D (gR v' 0) K) (hasK (nI cc) a2) 2731
      obtain ⟨u2, v2, s1, s2, s3, s4⟩ := lm_share (h1.gf q2).rel (p := sel (BW D (gR v' 0) K) (hasK (nI cc) a2) 2731) (q := sm (BW D (gR v' 0) K) 2731) (by omega) ⟨hs0, by omega⟩
      rw [s1, bs, s2, bs]
      exact ⟨1, u2, v2, rfl, rfl, s3, s4.trans h2⟩
  · refine lm_b hR (j := 0) (by decide) (-2) ?_ ?_
    · have hb : ((mX5_bad u).bind fun r => some (r.1, r.2)) = some (-2, b5 u 0) := by rw [e_bad5]; rfl
      rw [hb]
      by_cases d1 : a1 < 0
      · rw [if_pos d1]
      · rw [if_neg d1]
        by_cases d2 : 4 ≤ a1
        · rw [if_pos d2]
        · rw [if_neg d2]
          by_cases d3 : a2 < 0
          · rw [if_pos d3]
          · rw [if_neg d3, if_neg (by (simp only [z_lt, z_le, z_gt, z_ge, z_eq, zm1, zm2, Int32.reduceToInt] at *; omega))]
    · have hb : ((mX6_bad v).bind fun r => some (r.1, r.2)) = some (-2, b6 v 0) := by rw [e_bad6]; rfl
      rw [hb]
      by_cases c1 : 0 ≤ a1.toInt ∧ a1.toInt ≤ 3
      · rw [if_pos c1, if_neg (fun z => c ⟨c1, z⟩)]
      · rw [if_neg c1]
theorem sel_from (W : Nat → Nat) (o : Nat) : ∀ n, fd (fun k (y : Int64) => y + lN (W (o + k))) n 0 = lN (sm (fun k => W (o + k)) n) := fun n => fd_sm (fun k => W (o + k)) n
theorem sm_shift (W : Nat → Nat) (o : Nat) : ∀ n, sm (fun k => W (o + k)) n ≤ sm W (o + n) := by
  intro n
  induction n with
  | zero => exact Nat.zero_le _
  | succ n ih =>
    show sm (fun k => W (o + k)) n + W (o + n) ≤ sm W (o + n) + W (o + n)
    omega
theorem lm_two : LM_two Rel := by
  intro u k0 k1 v hR
  unfold mX5_two mX6_two
  obtain ⟨u', v', L, K, P, h1, h2, h3⟩ := rel_gs hR
  rcases h3 with ⟨p1, p2⟩ | ⟨D, p1, p2, hD, hf, hMP, hDR, hi1, hday, hA, hL, hMG, hs0, hs1⟩
  · rw [p1, p2, bs, bs]
    exact lm_n (u := u) (v := v) h1.rel h2 rfl rfl
  · rw [p1, p2, bs, bs]
    dsimp only
    rw [if_pos (show (0 : Int32) = 0 from rfl), if_neg (show ¬ (1 : Int32) = 0 by decide)]
    have e5 := lp_fd0 (S := mX2_ofTwo_s5 u') (fun k (y : Int64) => (y, nI (85 + k))) (fun k y => y + lN (BW D (gR v' 0) K (85 + k))) (fun y => y) 2646 0
      (fun k y hk => by
        unfold mX2_ofTwo_s5
        dsimp only
        rw [if_neg (show ¬ (2731 : Int32) ≤ nI (85 + k) from nI_ge (b := 2731) (by omega) (by decide)), gd_t (i_k (by omega) (by decide)), i_cl (by omega), hA _ (by omega), i_s]
        rfl)
      (fun y => by
        unfold mX2_ofTwo_s5
        dsimp only
        rw [if_pos (show (2731 : Int32) ≤ nI (85 + 2646) by decide)])
    have e6 := lp_fd0 (S := mX6_two_s17 v') (fun k (y : Int64) => (y, nI (85 + k))) (fun k y => y + lN (BW D (gR v' 0) K (85 + k))) (fun y => y) 2646 0
      (fun k y hk => by
        unfold mX6_two_s17
        dsimp only
        rw [if_neg (show ¬ (2731 : Int32) ≤ nI (85 + k) from nI_ge (b := 2731) (by omega) (by decide)), gd_t (i_k (by omega) (by decide)), i_cl (by omega), hMG.1 _ (by omega), i_s]
        rfl)
      (fun y => by
        unfold mX6_two_s17
        dsimp only
        rw [if_pos (show (2731 : Int32) ≤ nI (85 + 2646) by decide)])
    rw [sel_from] at e5 e6
    have e5' : mX2_ofTwo u' = some (lN (sm (fun k => BW D (gR v' 0) K (85 + k)) 2646)) := by
      unfold mX2_ofTwo
      exact (congrArg (fun o => Option.bind o fun e => some e) e5).trans rfl
    have e6' : lpF (mX6_two_s17 v') (0, 85) = some (lN (sm (fun k => BW D (gR v' 0) K (85 + k)) 2646)) := e6
    have hsl : sm (fun k => BW D (gR v' 0) K (85 + k)) 2646 ≤ sm (BW D (gR v' 0) K) 2731 := sm_shift (BW D (gR v' 0) K) 85 2646
    obtain ⟨u2, v2, s1, s2, s3, s4⟩ := lm_share h1.rel (p := sm (fun k => BW D (gR v' 0) K (85 + k)) 2646) (q := sm (BW D (gR v' 0) K) 2731) (by omega) ⟨hs0, by omega⟩
    rw [e5', bs, hL, s1, bs, e6', bs, hMG.2, s2, bs]
    exact ⟨1, u2, v2, rfl, rfl, s3, s4.trans h2⟩
theorem cmp_le {a b : Nat} (ha : a < 9223372036854775808) (hb : b < 9223372036854775808) : (lg_cmp (lN a) (lN b) ≤ 0) ↔ a ≤ b := by
  rw [z_cmple, zl_le, zl_nN ha, zl_nN hb]
  omega
theorem lm_likeliest : LM_likeliest Rel := by
  intro u k0 k1 v hR
  unfold mX5_likeliest mX6_likeliest
  obtain ⟨u', v', L, K, P, h1, h2, h3⟩ := rel_gs hR
  rcases h3 with ⟨p1, p2⟩ | ⟨D, p1, p2, hD, hf, hMP, hDR, hi1, hday, hA, hL, hMG, hs0, hs1⟩
  · rw [p1, p2, bs, bs]
    exact lm_n (u := u) (v := v) h1.rel h2 rfl rfl
  · rw [p1, p2, bs, bs]
    dsimp only
    rw [if_pos (show (0 : Int32) = 0 from rfl), if_neg (show ¬ (1 : Int32) = 0 by decide)]
    have hW : ∀ g, g < 2731 → BW D (gR v' 0) K g < 9223372036854775808 := fun g hg => by
      have := BW_le h1.1 D g hg
      omega
    have key : ∀ n k b, k + n = 2731 → b < k → lpF (mX2_greatest_s14 u') (nI b, lN (BW D (gR v' 0) K b), nI k) = lpF (mX6_likeliest_s16 v') (nI b, nI k) ∧ ∃ r, lpF (mX6_likeliest_s16 v') (nI b, nI k) = some r := by
      intro n
      induction n with
      | zero =>
        intro k b h0 hb
        have h0 : k = 2731 := h0
        subst h0
        have s5 : mX2_greatest_s14 u' (nI b, lN (BW D (gR v' 0) K b), nI 2731) = some (.inl (nI b)) := by
          unfold mX2_greatest_s14
          dsimp only
          rw [if_pos (by decide)]
        have s6 : mX6_likeliest_s16 v' (nI b, nI 2731) = some (.inl (nI b)) := by
          unfold mX6_likeliest_s16
          dsimp only
          rw [if_pos (by decide)]
        rw [lp_stop s5, lp_stop s6]
        exact ⟨rfl, _, rfl⟩
      | succ n ih =>
        intro k b h0 hb
        have hk : k < 2731 := by omega
        have hc := cmp_le (hW k hk) (hW b (by omega))
        have s5 : mX2_greatest_s14 u' (nI b, lN (BW D (gR v' 0) K b), nI k) = if BW D (gR v' 0) K k ≤ BW D (gR v' 0) K b then some (.inr (nI b, lN (BW D (gR v' 0) K b), nI (k + 1))) else some (.inr (nI k, lN (BW D (gR v' 0) K k), nI (k + 1))) := by
          unfold mX2_greatest_s14
          dsimp only
          rw [if_neg (show ¬ (2731 : Int32) ≤ nI k from nI_ge (b := 2731) hk (by decide)), gd_t (i_k hk (by decide)), gd_t (i_k hk (by decide)), i_cl (by omega), hA k hk, i_s]
          by_cases c : BW D (gR v' 0) K k ≤ BW D (gR v' 0) K b
          · rw [if_pos (hc.mpr c), if_pos c]
          · rw [if_neg (fun z => c (hc.mp z)), if_neg c]
        have s6 : mX6_likeliest_s16 v' (nI b, nI k) = if BW D (gR v' 0) K k ≤ BW D (gR v' 0) K b then some (.inr (nI b, nI (k + 1))) else some (.inr (nI k, nI (k + 1))) := by
          unfold mX6_likeliest_s16
          dsimp only
          rw [if_neg (show ¬ (2731 : Int32) ≤ nI k from nI_ge (b := 2731) hk (by decide)), gd_t (i_k hk (by decide)), gd_t (i_k (show b < 2731 by omega) (by decide)), show (nI k).toNatClampNeg = k from i_cl (by omega), show (nI b).toNatClampNeg = b from i_cl (by omega), hMG.1 k hk, hMG.1 b (by omega), i_s]
          by_cases c : BW D (gR v' 0) K k ≤ BW D (gR v' 0) K b
          · rw [if_pos (hc.mpr c), if_pos c]
          · rw [if_neg (fun z => c (hc.mp z)), if_neg c]
        by_cases c : BW D (gR v' 0) K k ≤ BW D (gR v' 0) K b
        · rw [if_pos c] at s5 s6
          rw [lp_go s5, lp_go s6]
          exact ih (k + 1) b (by omega) (by omega)
        · rw [if_neg c] at s5 s6
          rw [lp_go s5, lp_go s6]
          exact ih (k + 1) k (by omega) (by omega)
    obtain ⟨y1, r, y2⟩ := key 2730 1 0 rfl (by decide)
    have z0 : mX5_at_ 2731 (gA u' 0) 0 = some (lN (BW D (gR v' 0) K 0)) := by rw [← hA 0 (by decide)]; exact e_atN_ (k := 0) (by decide) _ (by decide)
    have g5 : mX2_greatest u' = some r := by
      unfold mX2_greatest
      rw [z0, bs]
      exact (congrArg (fun o => Option.bind o fun e => some e) (y1.trans y2)).trans rfl
    have g6 : lpF (mX6_likeliest_s16 v') (0, 1) = some r := y2
    rw [g5, bs, g6, bs]
    exact ⟨r, u', v', rfl, rfl, h1.rel, h2⟩
