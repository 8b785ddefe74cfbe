/-! the class's day, worked out -/
def SF (H : Nat → Int32) (d n : Nat) (F0 : Nat → Int32) : Nat → Int32 := (fd (fun k (x : Int32 × (Nat → Int32)) => (spH (nI d) (H k) x.1 - spB (nI d) (H k) x.1, upd x.2 (120 * (d - 1) + k) (spB (nI d) (H k) x.1))) n (0, F0)).2
theorem SF_is {D : List (Nat × Nat)} {d : Nat} {H F0 : Nat → Int32} (hd : d ≤ 3) (hD : WD D) (hH : ∀ m, m < D.length → H m = nI (dH D m)) (j : Nat) : SF H d D.length F0 j = if 120 * (d - 1) ≤ j ∧ j < 120 * (d - 1) + D.length then nI (ob D d (j - 120 * (d - 1))) else F0 j := by
  unfold SF
  rw [sp_fd hd hD hH D.length (Nat.le_refl _)]
  dsimp only
  rw [fd_up (120 * (d - 1)) (fun k => nI (ob D d k))]
theorem e_seep3 {w : KS} {n : Nat} (h6 : gI w 6 = nI n) (hn : n ≤ 120) : lpF mX0_read_s86 (1, w) = some (sR w 10 (SF (gR w 8) 3 n (SF (gR w 8) 2 n (SF (gR w 8) 1 n (gR w 10))))) := by
  have st : ∀ (d : Nat) (F : Nat → Int32), 1 ≤ d ∧ d ≤ 3 → mX0_read_s86 (nI d, sR w 10 F) = some (.inr (nI (d + 1), sR w 10 (SF (gR w 8) d n F))) := by
    intro d F hd
    unfold mX0_read_s86
    dsimp only
    rw [if_neg (show ¬ (3 : Int32) < nI d from nI_nlt (a := 3) hd.2 (by decide)), e_seep (u := sR w 10 F) h6 hn hd, bs, i_s, sR_sR]
    rfl
  have en : ∀ F : Nat → Int32, mX0_read_s86 (nI 4, sR w 10 F) = some (.inl (sR w 10 F)) := by
    intro F
    unfold mX0_read_s86
    dsimp only
    rw [if_pos (by decide)]
  have e0 : lpF mX0_read_s86 (1, w) = lpF mX0_read_s86 (nI 1, sR w 10 (gR w 10)) := by rw [sR_self]; rfl
  rw [e0, lp_go (st 1 _ (by decide)), lp_go (st 2 _ (by decide)), lp_go (st 3 _ (by decide)), lp_stop (en _)]
theorem e_read {u : KS} {t : Nat → Int32} {L : Nat} (hL : L ≤ 120) (ht : ∀ i, i < L → gR u 1 i = t i) : ∃ u', mX0_read u (nI L) = some u' ∧ DF u u' ∧ (∃ n, n ≤ 120 ∧ gI u' 6 = nI n) ∧ (match day t L with
    | .inl s => gI u' 5 = nI s
    | .inr D => gI u' 5 = -1 ∧ Dar u' D ∧ ∀ m, m < D.length → ∀ d, 1 ≤ d → d ≤ 3 → gR u' 10 (120 * (d - 1) + m) = nI (ob D d m)) := by
  obtain ⟨w0, hw0⟩ : ∃ w0 : KS, w0 = sI (sI (sI u 5 (-1)) 6 0) 7 0 := ⟨_, rfl⟩
  have f0 : DF u w0 := by rw [hw0]; exact (((DF.rf u).I (k := 5) (by decide) _).I (k := 6) (by decide) _).I (k := 7) (by decide) _
  have hC : CS w0 (0, 0, 0, []) := by
    rw [hw0]
    exact ⟨rfl, (show (0 : Nat) ≤ 3 by decide), ⟨rfl, (show (0 : Nat) ≤ 120 by decide), fun m hm => absurd hm (Nat.not_lt_zero _)⟩, fun q => absurd q (show ¬ ((0 : Nat) = 1 ∨ (0 : Nat) = 2) by decide), fun q => absurd q (show ¬ (0 : Nat) = 2 by decide)⟩
  have ht0 : ∀ i, i < L → gR w0 1 i = t i := by rw [hw0]; exact ht
  have h50 : gI w0 5 = -1 := by rw [hw0]; rfl
  obtain ⟨w, q1, q2, q3⟩ := e_readL hL (L + 1) 0 w0 (0, 0, 0, []) (by omega) (Nat.zero_le _) ht0 hC h50 (fun _ _ => Or.inr (Or.inl rfl))
  have q1' : lpF (mX0_read_s17 (nI L)) (0, sI (sI (sI u 5 (-1)) 6 0) 7 0) = some w := by rw [← hw0]; exact q1
  have hday : day t L = PR t L 0 (0, 0, 0, []) := rfl
  unfold mX0_read
  rw [q1', bs, hday]
  cases hr : PR t L 0 (0, 0, 0, []) with
  | inl s =>
    rw [hr] at q3
    obtain ⟨⟨n, hn, h6⟩, q3⟩ := q3
    rcases q3 with ⟨q5, q6⟩ | ⟨q5, q6, q7⟩
    · rw [if_neg (show ¬ gI w 5 = -1 by rw [q5]; exact nI_nm1 (by omega)), e_seep3 h6 hn, bs]
      exact ⟨_, rfl, (f0.tr q2).R (by decide) _, ⟨n, hn, h6⟩, q5⟩
    · rw [if_pos q6, if_neg q7, e_seep3 (w := sI w 5 (nI L)) h6 hn, bs]
      exact ⟨_, rfl, ((f0.tr q2).I (k := 5) (by decide) _).R (by decide) _, ⟨n, hn, h6⟩, by rw [q5]; rfl⟩
  | inr D =>
    have hD := day_WD (hday.trans hr)
    rw [hr] at q3
    obtain ⟨q5, q6, q7⟩ := q3
    rw [if_pos q5, if_pos q6, e_seep3 q7.1 q7.2.1, bs]
    refine ⟨_, rfl, (f0.tr q2).R (by decide) _, ⟨D.length, q7.2.1, q7.1⟩, q5, q7, fun m hm d h1 h3 => ?_⟩
    have hH : ∀ m, m < D.length → gR w 8 m = nI (dH D m) := fun m hm => (q7.2.2 m hm).1
    show SF (gR w 8) 3 D.length _ (120 * (d - 1) + m) = _
    have hDl := q7.2.1
    rw [SF_is (by decide) hD hH, SF_is (by decide) hD hH, SF_is (by decide) hD hH]
    rcases (show d = 1 ∨ d = 2 ∨ d = 3 by omega) with h | h | h <;> subst h
    · rw [if_neg (show ¬ (120 * (3 - 1) ≤ 120 * (1 - 1) + m ∧ _) by omega), if_neg (show ¬ (120 * (2 - 1) ≤ 120 * (1 - 1) + m ∧ _) by omega), if_pos (show 120 * (1 - 1) ≤ 120 * (1 - 1) + m ∧ _ by omega), Nat.add_sub_cancel_left]
    · rw [if_neg (show ¬ (120 * (3 - 1) ≤ 120 * (2 - 1) + m ∧ _) by omega), if_pos (show 120 * (2 - 1) ≤ 120 * (2 - 1) + m ∧ _ by omega), Nat.add_sub_cancel_left]
    · rw [if_pos (show 120 * (3 - 1) ≤ 120 * (3 - 1) + m ∧ _ by omega), Nat.add_sub_cancel_left]
def DG (u u' : KS) : Prop := (∀ k, (1 ≤ k ∧ k < 5) ∨ 10 ≤ k → gI u' k = gI u k) ∧ (∀ k, k < 7 ∨ 11 ≤ k → gR u' k = gR u k) ∧ gL u' = gL u ∧ gA u' = gA u ∧ gO u' = gO u
theorem nat_is {x : Int32} (h : 0 ≤ x.toInt) : x = nI (nat x) ∧ ((nat x : Nat) : Int) = x.toInt := by
  have e : ((nat x : Nat) : Int) = x.toInt := Int.toNat_of_nonneg h
  have := z_rng x
  exact ⟨z_is (by omega) e.symm, e⟩
theorem prs_le {t : Nat → Int32} {L : Nat} : ∀ (f p : Nat) (x : TS) (s : Nat), p ≤ L → prs t L f p x = .inl s → s ≤ L := by
  intro f
  induction f with
  | zero => intro p x s hp h; cases h; exact hp
  | succ f ih =>
    intro p x s hp h
    rw [prs.eq_2] at h
    split at h
    · next hl =>
      cases ht : tst t (skp t L L p) (tkE t L (skp t L L p)) x with
      | none => rw [ht] at h; cases h; exact Nat.le_of_lt hl
      | some x' => rw [ht] at h; exact ih _ x' s (tkE_le hl) h
    · split at h
      · cases h
      · cases h; exact Nat.le_refl _
theorem day_le {t : Nat → Int32} {L s : Nat} (h : day t L = .inl s) : s ≤ L := prs_le _ _ _ s (Nat.zero_le _) h
theorem b4_n {u : KS} {b : Nat → Int32} (hS : Ks u b) : gR u 2 0 = nI (nat (b 4)) ∧ nat (b 4) ≤ 100 := by
  have h := hS.2.1
  obtain ⟨e1, e2⟩ := nat_is (x := b 4) h.1
  exact ⟨(hS.1 0 (by decide)).trans e1, by omega⟩
theorem e_readDay {u : KS} {b : Nat → Int32} {L : Nat} (hT : Kt u b L) (hS : Ks u b) (hC : gI u 0 = 1 ∨ (gI u 0 = 0 ∧ DayOk u (tx b) L (nat (b 4)))) : ∃ u', mX5_readDay u = some u' ∧ DG u u' ∧ gI u' 0 = 0 ∧ DayOk u' (tx b) L (nat (b 4)) ∧ (gI u 0 = 0 → u' = u) := by
  unfold mX5_readDay
  rcases hC with h0 | ⟨h0, hd⟩
  · obtain ⟨w, q1, q2, ⟨n, hn, h6⟩, q4⟩ := e_read (t := tx b) hT.1 (fun i hi => (hT.2.2.2 i hi).1)
    obtain ⟨e4, f4⟩ := b4_n hS
    have e2 : gR w 2 0 = nI (nat (b 4)) := by rw [q2.2.1 2 (by decide)]; exact e4
    rw [if_neg (show ¬ gI u 0 = 0 by rw [h0]; decide), hT.2.1, q1, bs, show (0 : Int32) = nI 0 from rfl, e_atN (by decide) _ (by decide), bs, e2]
    have mk : ∀ F : Nat → Int32, DG u (sI (sR w 7 F) 0 (nI 0)) := fun F => ⟨fun k hk => by rw [s_II, if_neg (by omega)]; exact q2.1 k (by omega), fun k hk => by rw [s_RI, s_RR, if_neg (by omega)]; exact q2.2.1 k hk, q2.2.2.1, q2.2.2.2.1, q2.2.2.2.2⟩
    unfold DayOk
    cases hr : day (tx b) L with
    | inl s =>
      rw [hr] at q4
      rw [e_heat h6 hn, bs]
      exact ⟨_, rfl, mk _, rfl, ⟨q4, n, hn, h6⟩, fun q => absurd (h0.symm.trans q) (by decide)⟩
    | inr D =>
      rw [hr] at q4
      obtain ⟨F, g1, g2⟩ := e_heatD q4.2.1 f4 (day_WD hr)
      rw [g1, bs]
      exact ⟨_, rfl, mk _, rfl, ⟨q4.1, q4.2.1.1, fun m hm => ⟨(q4.2.1.2.2 m hm).1, (q4.2.1.2.2 m hm).2, q4.2.2 m hm⟩, g2⟩, fun q => absurd (h0.symm.trans q) (by decide)⟩
  · rw [if_pos h0]
    exact ⟨u, rfl, ⟨fun _ _ => rfl, fun _ _ => rfl, rfl, rfl, rfl⟩, h0, hd, fun _ => rfl⟩
theorem DG_RK {u u' : KS} {b : Nat → Int32} {L K P : Nat} (h : DG u u') (hK : RK u b L K P) : RK u' b L K P := by
  obtain ⟨hT, hS, hp, hm, hl, hq⟩ := hK
  exact ⟨Kt_cg hT (h.1 2 (by decide)) (h.2.1 1 (by decide)) rfl (fun _ _ => rfl), Ks_cg hS (h.2.1 2 (by decide)) (fun _ _ => rfl), Kp_cg hp (h.2.1 3 (by decide)) (fun _ _ => rfl), Km_cg hm (h.2.1 4 (by decide)) (fun _ _ => rfl), Kl_cg hl (h.1 3 (by decide)) (h.2.1 5 (by decide)) rfl (fun _ _ => rfl), Kq_cg hq (h.1 4 (by decide)) (h.2.1 6 (by decide)) rfl (fun _ _ => rfl)⟩
theorem DG_Rf {u u' v : KS} (h : DG u u') (hf : Rf u v) : Rf u' v := fun j hj => by rw [h.2.1 0 (by decide)]; exact hf j hj
theorem DG_FR {u u' v : KS} (h : DG u u') (hF : FR u v) : FR u' v := by
  obtain ⟨h0, x, y, hb, hk, hw⟩ := hF
  refine ⟨h0, x, y, hb, fun k hk3 => ?_, hw⟩
  rw [h.2.2.2.1]
  exact hk k hk3
