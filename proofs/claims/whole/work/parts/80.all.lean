/-! a new object, and all together -/
theorem e_init : ∃ v0, mX6_init kM0 = some v0 ∧ Rel kX0 none none v0 := by
  obtain ⟨b0, hb0⟩ : ∃ b0 : Nat → Int32, b0 = upd (upd (upd (gR kM0 0) ((5 : Int32).toNatClampNeg) 5) ((6 : Int32).toNatClampNeg) 8) ((7 : Int32).toNatClampNeg) 9 := ⟨_, rfl⟩
  have e1 := lp_fd0 (S := mX6_init_s144) (fun k (y : Nat → Int32) => (nI k, sR kM0 0 y)) (fun k y => upd y (8 + k) 1) (fun y => sR kM0 0 y) 7 b0
    (fun k y hk => by
      unfold mX6_init_s144
      dsimp only
      rw [if_neg (show ¬ (7 : Int32) ≤ nI k from nI_ge (b := 7) hk (by decide)), show (8 : Int32) + nI k = nI (8 + k) from i_add 8 k, gd_t (i_k (show 8 + k < 200 by omega) (by decide)), i_cl (by omega), i_s, sR_sR]
      rfl)
    (fun y => by
      unfold mX6_init_s144
      dsimp only
      rw [if_pos (by decide)])
  have h1 := fd_up 8 (fun _ => (1 : Int32)) 7 b0
  generalize fd (fun k y => upd y (8 + k) 1) 7 b0 = F at e1 h1
  have e1' : lpF mX6_init_s144 (0, sR kM0 0 b0) = some (sR kM0 0 F) := e1
  have e2 := lp_fd0 (S := mX6_init_s168) (fun k (y : Nat → Int32) => (nI k, sR kM0 0 y)) (fun k y => upd y (15 + k) (-1)) (fun y => sR kM0 0 y) 4 F
    (fun k y hk => by
      unfold mX6_init_s168
      dsimp only
      rw [if_neg (show ¬ (4 : Int32) ≤ nI k from nI_ge (b := 4) hk (by decide)), show (15 : Int32) + nI k = nI (15 + k) from i_add 15 k, gd_t (i_k (show 15 + k < 200 by omega) (by decide)), i_cl (by omega), i_s, sR_sR]
      rfl)
    (fun y => by
      unfold mX6_init_s168
      dsimp only
      rw [if_pos (by decide)])
  have h2 := fd_up 15 (fun _ => (-1 : Int32)) 4 F
  generalize fd (fun k y => upd y (15 + k) (-1)) 4 F = G at e2 h2
  have e2' : lpF mX6_init_s168 (0, sR kM0 0 F) = some (sR kM0 0 G) := e2
  obtain ⟨v0, q1, q2, q3⟩ := e_sets (v := sR kM0 0 G) (r := 1) (x := 1) (by decide) (by decide)
  have q1' : mX6_sets (sR kM0 0 G) 1 1 = some v0 := q1
  have hr0 : RH (sR kM0 0 G) 0 0 := ⟨by decide, fun k hk => by
    rw [show lb 0 k = 0 from lb_0w (w := 0) (by decide) (Nat.zero_le _)]
    rfl, 0, rfl, by decide, by decide, Or.inl rfl⟩
  have hx0 := hr0.lf q3 (show 0 ≠ 1 by decide)
  have hbk : gR v0 0 = G := q3.2.1 0 (by decide)
  have hG : ∀ j, G j = if 15 ≤ j ∧ j < 15 + 4 then -1 else if 8 ≤ j ∧ j < 8 + 7 then 1 else b0 j := fun j => by rw [h2, h1]
  refine ⟨v0, ?_, 0, 0, 0, ⟨?_, ?_, ?_, ?_, ?_, ?_⟩, ?_, ?_, ?_, ?_, Or.inl rfl, Or.inl rfl⟩
  · unfold mX6_init
    rw [← hb0, e1', bs, e2', bs, q1', bs]
  · rw [hbk]
    refine ⟨by decide, rfl, ?_, fun i hi => absurd hi (Nat.not_lt_zero _)⟩
    rw [hG, if_neg (by decide), if_neg (by decide), hb0]
    rfl
  · rw [hbk]
    have g4 : G 4 = 0 := by rw [hG, if_neg (by decide), if_neg (by decide), hb0]; rfl
    have g5 : G 5 = 5 := by rw [hG, if_neg (by decide), if_neg (by decide), hb0]; rfl
    have g6 : G 6 = 8 := by rw [hG, if_neg (by decide), if_neg (by decide), hb0]; rfl
    have g7 : G 7 = 9 := by rw [hG, if_neg (by decide), if_neg (by decide), hb0]; rfl
    refine ⟨fun i hi => ?_, ?_, ?_, ?_, ?_⟩
    · rcases (show i = 0 ∨ i = 1 ∨ i = 2 ∨ i = 3 by omega) with q | q | q | q <;> subst q
      · rw [show 4 + 0 = 4 from rfl, g4]; rfl
      · rw [show 4 + 1 = 5 from rfl, g5]; rfl
      · rw [show 4 + 2 = 6 from rfl, g6]; rfl
      · rw [show 4 + 3 = 7 from rfl, g7]; rfl
    · rw [g4]; decide
    · rw [g5]; decide
    · rw [g6]; decide
    · rw [g7]; decide
  · rw [hbk]
    intro i hi
    have g : G (8 + i) = 1 := by rw [hG, if_neg (by omega), if_pos (by omega)]
    rw [g]
    refine ⟨?_, by decide, by decide⟩
    rcases (show i = 0 ∨ i = 1 ∨ i = 2 ∨ i = 3 ∨ i = 4 ∨ i = 5 ∨ i = 6 by omega) with q | q | q | q | q | q | q <;> subst q <;> rfl
  · rw [hbk]
    intro i hi
    have g : G (15 + i) = -1 := by rw [hG, if_pos (by omega)]
    rw [g]
    refine ⟨?_, by decide, by decide⟩
    rcases (show i = 0 ∨ i = 1 ∨ i = 2 ∨ i = 3 by omega) with q | q | q | q <;> subst q <;> rfl
  · rw [hbk]
    refine ⟨by decide, rfl, ?_, fun i hi => absurd hi (Nat.not_lt_zero _), fun i hi => absurd hi (Nat.not_lt_zero _)⟩
    rw [hG, if_neg (by decide), if_neg (by decide), hb0]
    rfl
  · rw [hbk]
    refine ⟨by decide, rfl, ?_, fun i hi => absurd hi (Nat.not_lt_zero _), fun i hi => absurd hi (Nat.not_lt_zero _)⟩
    rw [hG, if_neg (by decide), if_neg (by decide), hb0]
    rfl
  · show gR v0 2 0 = 0
    rw [q3.2.1 2 (by decide)]
    rfl
  · show gR v0 2 1 = 0
    rw [q3.2.1 2 (by decide)]
    rfl
  · intro j hj
    rw [q3.2.1 3 (by decide)]
    rfl
  · refine FR_of (x := 0) (y := 1) ((q3.1 0).trans rfl) (fun k hk => ⟨?_, ?_⟩) hx0 q2
    · rw [show lb 0 k = 0 from lb_0w (w := 0) (by decide) (Nat.zero_le _)]
      rfl
    · rcases (show k = 0 ∨ k = 1 ∨ k = 2 by omega) with q | q | q <;> subst q <;> rfl
theorem lm_all : LMA Rel := ⟨lm_type, lm_clear, lm_faulty, lm_minutes, lm_put, lm_prior, lm_fault, lm_warm, lm_gives, lm_smoke, lm_goes, lm_look, lm_forget, lm_odds, lm_two, lm_likeliest, lm_guess, lm_next, lm_leaks, lm_hidden, lm_gone, lm_harvest, lm_drive, lm_part, lm_takes, lm_sign, lm_limb, lm_status, lm_count, lm_digest, lm_imageb, lm_image0, lm_image1, lm_fromb, lm_fromn0, lm_fromn1, lm_froms0, lm_froms1⟩
theorem m_all : ∃ (R : RR) (v0 : KS), LMA R ∧ mX6_init kM0 = some v0 ∧ R kX0 none none v0 := by
  obtain ⟨v0, h1, h2⟩ := e_init
  exact ⟨Rel, v0, lm_all, h1, h2⟩
