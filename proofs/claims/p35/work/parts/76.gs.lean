/-! the class alone: guesses -/
section GS
variable {u : KS} {b : Nat → Int32} {L K : Nat} {O : Nat → Option Nat} {D : List (Nat × Nat)}
theorem rc_ef {u1 : KS} {x : Int32} (h : RCD u b L K O) (e : EF u u1) (hc : x = 1 ∨ (x = 0 ∧ ∃ D, day (tx b) L = .inr D ∧ GsOk u1 D (nat (b 4)) (nat (b 5)) (nat (b 6)) (nat (b 7)) (bpr b) (blk b) K)) : RCD (sI u1 1 x) b L K O := by
  obtain ⟨⟨⟨hT, hS, hp, hm, hl, hq⟩, a6, a3, ⟨x', y', a5⟩, a2⟩, a7, a8⟩ := h
  have hd : DayOk (sI u1 1 x) (tx b) L (nat (b 4)) := by
    unfold DayOk at a8 ⊢
    have i5 : gI (sI u1 1 x) 5 = gI u 5 := e.1 5
    have i6 : gI (sI u1 1 x) 6 = gI u 6 := e.1 6
    have j7 : gR (sI u1 1 x) 7 = gR u 7 := e.2.1 7 (by decide)
    have j8 : gR (sI u1 1 x) 8 = gR u 8 := e.2.1 8 (by decide)
    have j9 : gR (sI u1 1 x) 9 = gR u 9 := e.2.1 9 (by decide)
    have j10 : gR (sI u1 1 x) 10 = gR u 10 := e.2.1 10 (by decide)
    rw [i5, i6, j7, j8, j9, j10]
    exact a8
  have z0 : gI (sI u1 1 x) 0 = 0 := (e.1 0).trans a7
  refine ⟨⟨⟨Kt_cg hT (e.1 2) (e.2.1 1 (by decide)) rfl (fun _ _ => rfl), Ks_cg hS (e.2.1 2 (by decide)) (fun _ _ => rfl), Kp_cg hp (e.2.1 3 (by decide)) (fun _ _ => rfl), Km_cg hm (e.2.1 4 (by decide)) (fun _ _ => rfl), Kl_cg hl (e.1 3) (e.2.1 5 (by decide)) rfl (fun _ _ => rfl), Kq_cg hq (e.1 4) (e.2.1 6 (by decide)) rfl (fun _ _ => rfl)⟩, ⟨Or.inr ⟨z0, hd⟩, ?_⟩, ?_, ⟨x', y', a5.1, fun k hk => ?_⟩, e.2.2.2.2.trans a2⟩, z0, hd⟩
  · rcases hc with hc | ⟨hc, D, h1, h2⟩
    · exact Or.inl hc
    · exact Or.inr ⟨hc, z0, D, h1, h2⟩
  · show gR u1 0 2 = 0
    rw [e.2.1 0 (by decide)]
    exact a3
  · show gA u1 2 k = _ ∧ gA u1 3 k = _
    rw [e.2.2.2.1 2 (by decide), e.2.2.2.1 3 (by decide)]
    exact a5.2 k hk
/-- the weights, all of them -/
abbrev TT (D : List (Nat × Nat)) (b : Nat → Int32) (K : Nat) : Nat := sm (BW D b K) 2731
def WS (u : KS) (D : List (Nat × Nat)) (b : Nat → Int32) (K : Nat) : Prop := (∀ g, g < 2731 → gA u 0 g = lN (BW D b K g)) ∧ gL u 0 = lN (TT D b K)
theorem rc_ng (h : RC u b L K O) (hd : day (tx b) L = .inr D) : ∃ u', mX5_noGuesses u = some (if TT D b K = 0 then 1 else 0, u') ∧ RCD u' b L K O ∧ DR u' D (nat (b 4)) ∧ gI u' 1 = 0 ∧ WS u' D b K := by
  obtain ⟨u1, q1, q2, q3⟩ := rc_day h
  have hdr := q2.dr hd
  have hD := day_WD hd
  have hsm : TT D b K < 36028797018963968 := BW_sm q2.1.1 D
  have fin : ∀ (w : KS), gL w 0 = lN (TT D b K) → ∀ (w' : KS), (if lg_cmp (gL w 0) 0 = 0 then some ((1 : Int32), w') else some (0, w')) = some (if TT D b K = 0 then 1 else 0, w') := by
    intro w hw w'
    rw [hw]
    by_cases c : TT D b K = 0
    · rw [if_pos ((lN_0 (by omega)).mpr c), if_pos c]
    · rw [if_neg (fun q => c ((lN_0 (by omega)).mp q)), if_neg c]
  have wk : ∀ (hstale : ¬ gI u1 1 = 0), ∃ u2, (if gI u1 1 = 0 then (if lg_cmp (gL u1 0) 0 = 0 then some ((1 : Int32), u1) else some (0, u1)) else ((mX5_weighGuesses u1).bind fun r25 => if lg_cmp (gL r25 0) 0 = 0 then some (1, sI r25 1 0) else some (0, sI r25 1 0))) = some (if TT D b K = 0 then 1 else 0, u2) ∧ RCD u2 b L K O ∧ DR u2 D (nat (b 4)) ∧ gI u2 1 = 0 ∧ WS u2 D b K := by
    intro hs
    obtain ⟨u2, y1, y2, y3⟩ := e_weighG q2.1.1 hD hdr.2
    rw [if_neg hs, y1, bs]
    exact ⟨sI u2 1 0, fin u2 y3.2 _, rc_ef q2 y2 (Or.inr ⟨rfl, D, hd, y3⟩), y2.dr hdr.2, rfl, y3.1, y3.2⟩
  unfold mX5_noGuesses
  rw [q1, bs, if_pos hdr.1]
  rcases q2.1.2.1.2 with h9 | ⟨h9, h10, D', h11, h12⟩
  · exact wk (by rw [h9]; decide)
  · have hDD : D' = D := by
      have e := h11.symm.trans hd
      cases e; rfl
    subst hDD
    rw [if_pos h9]
    exact ⟨u1, fin u1 h12.2 _, q2, hdr.2, h9, h12.1, h12.2⟩
theorem rc_same {u u1 : KS} (h : RC u b L K O) (e : EF u u1) (h0 : gA u1 0 = gA u 0) (hl : gL u1 0 = gL u 0) : RC u1 b L K O := by
  obtain ⟨⟨hT, hS, hp, hm, hl', hq⟩, hC, a3, ⟨x', y', a5⟩, a2⟩ := h
  refine ⟨⟨Kt_cg hT (e.1 2) (e.2.1 1 (by decide)) rfl (fun _ _ => rfl), Ks_cg hS (e.2.1 2 (by decide)) (fun _ _ => rfl), Kp_cg hp (e.2.1 3 (by decide)) (fun _ _ => rfl), Km_cg hm (e.2.1 4 (by decide)) (fun _ _ => rfl), Kl_cg hl' (e.1 3) (e.2.1 5 (by decide)) rfl (fun _ _ => rfl), Kq_cg hq (e.1 4) (e.2.1 6 (by decide)) rfl (fun _ _ => rfl)⟩, ?_, ?_, ⟨x', y', a5.1, fun k hk => ?_⟩, e.2.2.2.2.trans a2⟩
  · unfold CA DayOk GsOk at hC ⊢
    rw [e.1 0, e.1 1, e.1 5, e.1 6, e.2.1 7 (by decide), e.2.1 8 (by decide), e.2.1 9 (by decide), e.2.1 10 (by decide), h0, hl]
    exact hC
  · rw [e.2.1 0 (by decide)]
    exact a3
  · rw [e.2.2.2.1 2 (by decide), e.2.2.2.1 3 (by decide)]
    exact a5.2 k hk
theorem lt3 {x : Nat} (h : x < 4611686018427387904) : x < 1073741824 ^ 3 := Nat.lt_of_lt_of_le h (by decide)
theorem rc_share (h : RC u b L K O) {p q : Nat} (hp : p < 4611686018427387904) (hq : 0 < q ∧ q < 4611686018427387904) : ∃ u2, mX1_setShare u (lN p) (lN q) = some u2 ∧ RC u2 b L K O ∧ FX u2 (p / Nat.gcd p q) (q / Nat.gcd p q) := by
  obtain ⟨A, C, h1, h2⟩ := e_setShare (u := u) hp hq
  have hf : FX (sA (sA u 2 A) 3 C) (p / Nat.gcd p q) (q / Nat.gcd p q) := ⟨⟨lt3 (Nat.lt_of_le_of_lt (Nat.div_le_self _ _) hp), lt3 (Nat.lt_of_le_of_lt (Nat.div_le_self _ _) hq.2)⟩, fun k hk => h2 k hk⟩
  obtain ⟨a1, a2, a3, a4, a5⟩ := h
  exact ⟨_, h1, ⟨a1, a2, a3, ⟨_, _, hf⟩, a5⟩, hf⟩
theorem rc_T (h : RC u b L K O) (D : List (Nat × Nat)) : TT D b K < 36028797018963968 := BW_sm h.1 D
/-- the odds that a cylinder has a kind: the weight of the guesses that say so -/
def pK (D : List (Nat × Nat)) (b : Nat → Int32) (K c k : Nat) : Nat := sel (BW D b K) (hasK (nI c) (nI k)) 2731
theorem s_odds (h : RC u b L K O) (hd : day (tx b) L = .inr D) (hT : TT D b K ≠ 0) {c k : Nat} (hc : c < 4) (hk : k < 8) : ∃ u', mX5_odds u (nI c) (nI k) = some (1, u') ∧ RC u' b L K O ∧ FX u' (pK D b K c k / Nat.gcd (pK D b K c k) (TT D b K)) (TT D b K / Nat.gcd (pK D b K c k) (TT D b K)) := by
  obtain ⟨u', q1, q2, q3, q4, q5⟩ := rc_ng h hd
  have hs := rc_T h D
  have hsl := sel_le (BW D b K) (hasK (nI c) (nI k)) 2731
  have zc : (nI c).toInt = (c : Int) := z_nN (by omega)
  have zk : (nI k).toInt = (k : Int) := z_nN (by omega)
  obtain ⟨u2, s1, s2, s3⟩ := rc_share q2.1 (p := pK D b K c k) (q := TT D b K) (by unfold pK; unfold TT at hs; omega) ⟨by omega, by omega⟩
  refine ⟨u2, ?_, s2, s3⟩
  unfold mX5_odds
  rw [if_neg (by (simp only [z_lt, z_le, z_gt, z_ge, z_eq, zm1, zm2, Int32.reduceToInt] at *; omega)), if_neg (by (simp only [z_lt, z_le, z_gt, z_ge, z_eq, zm1, zm2, Int32.reduceToInt] at *; omega)), if_neg (by (simp only [z_lt, z_le, z_gt, z_ge, z_eq, zm1, zm2, Int32.reduceToInt] at *; omega)), if_pos (by (simp only [z_lt, z_le, z_gt, z_ge, z_eq, zm1, zm2, Int32.reduceToInt] at *; omega)), q1, bs]
  dsimp only
  rw [if_neg hT, if_pos rfl, e_having hc q5.1, bs, q5.2]
  show (mX1_setShare u' (lN (pK D b K c k)) (lN (TT D b K))).bind _ = _
  rw [s1, bs]
theorem s_odds0 (h : RC u b L K O) (hd : day (tx b) L = .inr D) (hT : TT D b K = 0) {c k : Nat} (hc : c < 4) (hk : k < 8) : ∃ u', mX5_odds u (nI c) (nI k) = some (-3, u') ∧ RC u' b L K O := by
  obtain ⟨u', q1, q2, q3, q4, q5⟩ := rc_ng h hd
  have zc : (nI c).toInt = (c : Int) := z_nN (by omega)
  have zk : (nI k).toInt = (k : Int) := z_nN (by omega)
  refine ⟨b5 u' 1, ?_, q2.1.b5 (by decide)⟩
  unfold mX5_odds
  rw [if_neg (by (simp only [z_lt, z_le, z_gt, z_ge, z_eq, zm1, zm2, Int32.reduceToInt] at *; omega)), if_neg (by (simp only [z_lt, z_le, z_gt, z_ge, z_eq, zm1, zm2, Int32.reduceToInt] at *; omega)), if_neg (by (simp only [z_lt, z_le, z_gt, z_ge, z_eq, zm1, zm2, Int32.reduceToInt] at *; omega)), if_pos (by (simp only [z_lt, z_le, z_gt, z_ge, z_eq, zm1, zm2, Int32.reduceToInt] at *; omega)), q1, bs]
  dsimp only
  rw [if_pos hT, if_neg (by decide), e_no5, bs]
theorem s_two (h : RC u b L K O) (hd : day (tx b) L = .inr D) : ∃ u', mX5_two u = some (if TT D b K = 0 then -3 else 1, u') ∧ RC u' b L K O := by
  obtain ⟨u', q1, q2, q3, q4, q5⟩ := rc_ng h hd
  have hs := rc_T h D
  unfold mX5_two
  rw [q1, bs]
  dsimp only
  by_cases hT : TT D b K = 0
  · rw [if_pos hT, if_pos hT, if_neg (by decide), e_no5, bs]
    exact ⟨_, rfl, q2.1.b5 (by decide)⟩
  · rw [if_neg hT, if_neg hT, if_pos rfl]
    have e5 := lp_fd0 (S := mX2_ofTwo_s5 u') (fun k (y : Int64) => (y, nI (85 + k))) (fun k y => y + lN (BW D b K (85 + k))) (fun y => y) 2646 0
      (fun k y hk => by
        unfold mX2_ofTwo_s5
        dsimp only
        rw [if_neg (show ¬ (2731 : Int32) ≤ nI (85 + k) from nI_ge (b := 2731) (by omega) (by decide)), gd_t (i_k (by omega) (by decide)), i_cl (by omega), q5.1 _ (by omega), i_s]
        rfl)
      (fun y => by
        unfold mX2_ofTwo_s5
        dsimp only
        rw [if_pos (show (2731 : Int32) ≤ nI (85 + 2646) by decide)])
    rw [sel_from] at e5
    have e5' : mX2_ofTwo u' = some (lN (sm (fun k => BW D b K (85 + k)) 2646)) := by
      unfold mX2_ofTwo
      exact (congrArg (fun o => Option.bind o fun e => some e) e5).trans rfl
    have hsl : sm (fun k => BW D b K (85 + k)) 2646 ≤ TT D b K := sm_shift (BW D b K) 85 2646
    obtain ⟨u2, s1, s2, s3⟩ := rc_share q2.1 (p := sm (fun k => BW D b K (85 + k)) 2646) (q := TT D b K) (by omega) ⟨by omega, by omega⟩
    rw [e5', bs, q5.2, s1, bs]
    exact ⟨u2, rfl, s2⟩
theorem s_likeliest (h : RC u b L K O) (hd : day (tx b) L = .inr D) : ∃ r u', mX5_likeliest u = some (r, u') ∧ RC u' b L K O ∧ ((TT D b K = 0 ∧ r = -3) ∨ (TT D b K ≠ 0 ∧ ∃ g, g < 2731 ∧ r = nI g ∧ 0 < BW D b K g)) := by
  obtain ⟨u', q1, q2, q3, q4, q5⟩ := rc_ng h hd
  have hs := rc_T h D
  unfold mX5_likeliest
  rw [q1, bs]
  dsimp only
  by_cases hT : TT D b K = 0
  · rw [if_pos hT, if_neg (by decide), e_no5, bs]
    exact ⟨_, _, rfl, q2.1.b5 (by decide), Or.inl ⟨hT, rfl⟩⟩
  · rw [if_neg hT, if_pos rfl]
    have hW : ∀ g, g < 2731 → BW D b K g < 9223372036854775808 := fun g hg => by
      have := BW_le h.1 D g hg
      omega
    have key : ∀ n k y, k + n = 2731 → y < k → (∀ g, g < k → BW D b K g ≤ BW D b K y) → ∃ r, r < 2731 ∧ (∀ g, g < 2731 → BW D b K g ≤ BW D b K r) ∧ lpF (mX2_greatest_s14 u') (nI y, lN (BW D b K y), nI k) = some (nI r) := by
      intro n
      induction n with
      | zero =>
        intro k y h0 hb hm
        have h0 : k = 2731 := h0
        subst h0
        refine ⟨y, hb, hm, lp_stop ?_⟩
        unfold mX2_greatest_s14
        dsimp only
        rw [if_pos (by decide)]
      | succ n ih =>
        intro k y h0 hb hm
        have hk : k < 2731 := by omega
        have hc := cmp_le (hW k hk) (hW y (by omega))
        have s5 : mX2_greatest_s14 u' (nI y, lN (BW D b K y), nI k) = if BW D b K k ≤ BW D b K y then some (.inr (nI y, lN (BW D b K y), nI (k + 1))) else some (.inr (nI k, lN (BW D b K k), nI (k + 1))) := by
          unfold mX2_greatest_s14
          dsimp only
          rw [if_neg (show ¬ (2731 : Int32) ≤ nI k from nI_ge (b := 2731) hk (by decide)), gd_t (i_k hk (by decide)), gd_t (i_k hk (by decide)), i_cl (by omega), q5.1 k hk, i_s]
          by_cases c : BW D b K k ≤ BW D b K y
          · rw [if_pos (hc.mpr c), if_pos c]
          · rw [if_neg (fun z => c (hc.mp z)), if_neg c]
        by_cases c : BW D b K k ≤ BW D b K y
        · rw [if_pos c] at s5
          rw [lp_go s5]
          refine ih (k + 1) y (by omega) (by omega) (fun g hg => ?_)
          by_cases hgk : g = k
          · subst hgk; exact c
          · exact hm g (by omega)
        · rw [if_neg c] at s5
          rw [lp_go s5]
          refine ih (k + 1) k (by omega) (by omega) (fun g hg => ?_)
          by_cases hgk : g = k
          · subst hgk; exact Nat.le_refl _
          · have := hm g (by omega)
            omega
    obtain ⟨r, y1, y2, y3⟩ := key 2730 1 0 rfl (by decide) (fun g hg => by
      have : g = 0 := by omega
      subst this
      exact Nat.le_refl _)
    have z0 : mX5_at_ 2731 (gA u' 0) 0 = some (lN (BW D b K 0)) := by rw [← q5.1 0 (by decide)]; exact e_atN_ (k := 0) (by decide) _ (by decide)
    have g5 : mX2_greatest u' = some (nI r) := by
      unfold mX2_greatest
      rw [z0, bs]
      exact (congrArg (fun o => Option.bind o fun e => some e) y3).trans rfl
    rw [g5, bs]
    refine ⟨nI r, u', rfl, q2.1, Or.inr ⟨hT, r, y1, rfl, ?_⟩⟩
    refine Nat.pos_of_ne_zero fun hz => hT ((sm_0 2731).mpr fun g hg => ?_)
    have := y2 g hg
    omega
theorem s_guess {g c : Nat} (hg : g < 2731) (hc : c < 4) : mX5_guess u (nI g) (nI c) = some (fIn g (nI c), u) := by
  have zg : (nI g).toInt = (g : Int) := z_nN (by omega)
  have zc : (nI c).toInt = (c : Int) := z_nN (by omega)
  unfold mX5_guess
  rw [if_neg (by (simp only [z_lt, z_le, z_gt, z_ge, z_eq, zm1, zm2, Int32.reduceToInt] at *; omega)), if_neg (show ¬ (2731 : Int32) ≤ nI g from nI_ge (b := 2731) hg (by decide)), if_neg (by (simp only [z_lt, z_le, z_gt, z_ge, z_eq, zm1, zm2, Int32.reduceToInt] at *; omega)), if_pos (by (simp only [z_lt, z_le, z_gt, z_ge, z_eq, zm1, zm2, Int32.reduceToInt] at *; omega)), e_faultIn hg hc, bs]
theorem s_leaks (h : RC u b L K O) (hd : day (tx b) L = .inr D) (hT : TT D b K ≠ 0) {t : Nat} (ht : t ≤ 99999) : ∃ u', mX5_leaks u (nI t) = some (1, u') ∧ RC u' b L K O ∧ FX u' (sel (BW D b K) (lsS (bn D (nat (b 4))) t) 2731 / Nat.gcd (sel (BW D b K) (lsS (bn D (nat (b 4))) t) 2731) (TT D b K)) (TT D b K / Nat.gcd (sel (BW D b K) (lsS (bn D (nat (b 4))) t) 2731) (TT D b K)) := by
  obtain ⟨u', q1, q2, q3, q4, q5⟩ := rc_ng h hd
  have hs := rc_T h D
  have hD := day_WD hd
  have hf := rc_f h
  have zt : (nI t).toInt = (t : Int) := z_nN (by omega)
  have hbn : ∀ a, a < 21 → bn D (nat (b 4)) a ≤ 12000 := fun a ha => bn_le hD hf ha
  obtain ⟨F, f1, f2⟩ := e_burnt5 hD hf q3
  obtain ⟨G, g1, g2⟩ := e_addUp (u := sR u' 11 F) (e := bn D (nat (b 4))) (cut := 4) f2
  have hbel := e_below (u := sR (sR u' 11 F) 12 G) (W := BW D b K) (e := bn D (nat (b 4))) ht hbn q5.1 g2
  have hu3 : RC (sR (sR u' 11 F) 12 G) b L K O := rc_same q2.1 (((EF.rf u').R (Or.inl rfl) F).R (Or.inr rfl) G) rfl rfl
  have hsl := sel_le (BW D b K) (lsS (bn D (nat (b 4))) t) 2731
  obtain ⟨u2, s1, s2, s3⟩ := rc_share hu3 (p := sel (BW D b K) (lsS (bn D (nat (b 4))) t) 2731) (q := TT D b K) (by unfold TT at hs; omega) ⟨by omega, by omega⟩
  have hgl : gL (sR (sR u' 11 F) 12 G) 0 = lN (TT D b K) := q5.2
  refine ⟨u2, ?_, s2, s3⟩
  unfold mX5_leaks
  rw [if_neg (by (simp only [z_lt, z_le, z_gt, z_ge, z_eq, zm1, zm2, Int32.reduceToInt] at *; omega)), if_pos (by (simp only [z_lt, z_le, z_gt, z_ge, z_eq, zm1, zm2, Int32.reduceToInt] at *; omega)), q1, bs]
  dsimp only
  rw [if_neg hT, if_pos rfl, f1, bs, g1, bs, hbel, bs, hgl, s1, bs]
theorem s_leaks0 (h : RC u b L K O) (hd : day (tx b) L = .inr D) (hT : TT D b K = 0) {t : Nat} (ht : t ≤ 99999) : ∃ u', mX5_leaks u (nI t) = some (-3, u') ∧ RC u' b L K O := by
  obtain ⟨u', q1, q2, q3, q4, q5⟩ := rc_ng h hd
  have zt : (nI t).toInt = (t : Int) := z_nN (by omega)
  refine ⟨b5 u' 1, ?_, q2.1.b5 (by decide)⟩
  unfold mX5_leaks
  rw [if_neg (by (simp only [z_lt, z_le, z_gt, z_ge, z_eq, zm1, zm2, Int32.reduceToInt] at *; omega)), if_pos (by (simp only [z_lt, z_le, z_gt, z_ge, z_eq, zm1, zm2, Int32.reduceToInt] at *; omega)), q1, bs]
  dsimp only
  rw [if_pos hT, if_neg (by decide), e_no5, bs]
end GS
