/-! leaks -/
theorem RelD_same {u u1 v : KS} {k0 k1 : Option KS} {L K P : Nat} (h : RelD u k0 k1 v L K P) (e : EF u u1) (hA : gA u1 0 = gA u 0) (hL : gL u1 0 = gL u 0) : RelD u1 k0 k1 v L K P := by
  have h2 := RelD_ef (x := gI u1 1) h e (by
    rcases h.2.2.2.2.2.1.2 with z | ⟨z1, z2, D, z3, z4⟩
    · exact Or.inl ((e.1 1).trans z)
    · refine Or.inr ⟨(e.1 1).trans z1, D, z3, ?_⟩
      unfold GsOk at z4 ⊢
      rw [hA, hL]
      exact z4)
  rw [sI_self] at h2
  exact h2
def bn (D : List (Nat × Nat)) (f a : Nat) : Nat := sm (fun m => gv D f a m 0) D.length
theorem bn_le {D : List (Nat × Nat)} {f a : Nat} (hD : WD D) (hf : f ≤ 100) (ha : a < 21) : bn D f a ≤ 12000 := by
  have := sm_le (f := fun m => gv D f a m 0) (b := 100) D.length (fun m _ => Nat.le_of_lt (gv_le 0 hD hf ha))
  have hDl := hD.1
  have : D.length * 100 ≤ 120 * 100 := Nat.mul_le_mul_right _ hDl
  unfold bn
  omega
theorem fd_smI (w : Nat → Nat) : ∀ n, fd (fun k y => y + nI (w k)) n (0 : Int32) = nI (sm w n) := by
  intro n
  induction n with
  | zero => rfl
  | succ n ih => rw [fd_s, ih, i_add]; rfl
theorem e_bb13 {u : KS} {D : List (Nat × Nat)} {f a : Nat} (hD : WD D) (hf : f ≤ 100) (h : DR u D f) (ha : a < 21) : lpF (mX0_bringBurnt_s13 u (nI a)) (0, 0) = some (nI (bn D f a)) := by
  have hDl := hD.1
  have e := lp_fd0 (S := mX0_bringBurnt_s13 u (nI a)) (fun k (y : Int32) => (y, nI k)) (fun k y => y + nI (gv D f a k 0)) (fun y => y) D.length 0
    (fun k y hk => by
      unfold mX0_bringBurnt_s13
      dsimp only
      rw [h.1, if_neg (nI_ge hk (by omega)), show mX0_given u (nI a) (nI k) 0 = mX0_given u (nI a) (nI k) (nI 0) from rfl, e_given5 hD hf h ha hk (by decide), bs, i_s])
    (fun y => by
      unfold mX0_bringBurnt_s13
      dsimp only
      rw [h.1, if_pos (Int32.le_refl _)])
  rw [fd_smI] at e
  exact e
theorem e_burnt5 {u : KS} {D : List (Nat × Nat)} {f : Nat} (hD : WD D) (hf : f ≤ 100) (h : DR u D f) : ∃ F, mX0_bringBurnt u = some (sR u 11 F) ∧ ∀ a, a < 21 → F a = nI (bn D f a) := by
  have e := lp_fd0 (S := mX0_bringBurnt_s2) (fun k (y : Nat → Int32) => (nI k, sR u 11 y)) (fun k y => upd y (0 + k) (nI (bn D f k))) (fun y => sR u 11 y) 21 (gR u 11)
    (fun k y hk => by
      unfold mX0_bringBurnt_s2
      dsimp only
      rw [if_neg (show ¬ (21 : Int32) ≤ nI k from nI_ge (b := 21) hk (by decide)), e_bb13 (u := sR u 11 y) hD hf h hk, bs, gd_t (i_k hk (by decide)), i_cl (by omega), i_s, sR_sR, Nat.zero_add]
      rfl)
    (fun y => by
      unfold mX0_bringBurnt_s2
      dsimp only
      rw [if_pos (by decide)])
  rw [sR_self] at e
  refine ⟨_, by
    unfold mX0_bringBurnt
    exact (congrArg (fun o => Option.bind o fun e => some e) e).trans rfl, fun a ha => ?_⟩
  rw [fd_up 0 (fun k => nI (bn D f k)), if_pos (by omega)]
  rfl
def lsS (e : Nat → Nat) (t g : Nat) : Bool := decide (am e 4 g < t)
theorem e_below {u : KS} {W e : Nat → Nat} {t : Nat} (ht : t ≤ 99999) (he : ∀ a, a < 21 → e a ≤ 12000) (hA : ∀ g, g < 2731 → gA u 0 g = lN (W g)) (hR : ∀ g, g < 2731 → gR u 12 g = nI (am e 4 g)) : mX2_below u (nI t) = some (lN (sel W (lsS e t) 2731)) := by
  have eq := lp_fd0 (S := mX2_below_s5 u (nI t)) (fun k (y : Int64) => (y, nI k)) (fun k y => if lsS e t k then y + lN (W k) else y) (fun y => y) 2731 0
    (fun k y hk => by
      have hle := am_le 4 he hk
      have hc : (nI t ≤ nI (am e 4 k)) ↔ t ≤ am e 4 k := nI_leI (by omega) (by omega)
      unfold mX2_below_s5
      dsimp only
      rw [if_neg (show ¬ (2731 : Int32) ≤ nI k from nI_ge (b := 2731) hk (by decide)), e_atN (by decide) _ hk, bs, hR k hk, gd_t (i_k hk (by decide)), i_cl (by omega), hA k hk, i_s]
      unfold lsS
      by_cases c : t ≤ am e 4 k
      · rw [if_pos (hc.mpr c), if_neg (by rw [decide_eq_true_iff]; omega)]
      · rw [if_neg (fun z => c (hc.mp z)), if_pos (by rw [decide_eq_true_iff]; omega)])
    (fun y => by
      unfold mX2_below_s5
      dsimp only
      rw [if_pos (by decide)])
  rw [fd_sel] at eq
  unfold mX2_below
  exact (congrArg (fun o => Option.bind o fun e => some e) eq).trans rfl
theorem e_lk46 {w : KS} {D : List (Nat × Nat)} {f a : Nat} {B : Nat → Int32} {c1 : Int32} (hD : WD D) (h : MP w D f) (ha : a < 21) : lpF (mX6_leaks_s46 c1 (nI a)) (0, sR w 10 (upd B a 0)) = some (sR w 10 (upd B a (nI (bn D f a)))) := by
  have hDl := hD.1
  have e := lp_fd0 (S := mX6_leaks_s46 c1 (nI a)) (fun k (y : Int32) => (nI k, sR w 10 (upd B a y))) (fun k y => y + nI (gv D f a k 0)) (fun y => sR w 10 (upd B a y)) D.length 0
    (fun k y hk => by
      have eg := e_given6 (v := sR w 10 (upd B a y)) (a := a) (m := k) (c := 0) ha (by omega) (by decide)
      rw [show gR (sR w 10 (upd B a y)) 9 = gR w 9 from rfl, h.2.2 a k 0 ha hk (by decide)] at eg
      have eg' : mX6_given (sR w 10 (upd B a y)) (nI a) (nI k) 0 = _ := eg
      unfold mX6_leaks_s46
      dsimp only
      rw [show gI (sR w 10 (upd B a y)) 5 = gI w 5 from rfl, h.1.1, if_neg (nI_ge hk (by omega)), eg', bs, gd_t (i_k ha (by decide)), gd_t (i_k ha (by decide)), i_cl (by omega), i_s, sR_sR, show gR (sR w 10 (upd B a y)) 10 = upd B a y from rfl, u_is, upd2])
    (fun y => by
      unfold mX6_leaks_s46
      dsimp only
      rw [show gI (sR w 10 (upd B a y)) 5 = gI w 5 from rfl, h.1.1, if_pos (Int32.le_refl _)])
  rw [fd_smI] at e
  exact e
theorem e_burnt6 {w : KS} {D : List (Nat × Nat)} {f : Nat} {c1 : Int32} (hD : WD D) (h : MP w D f) : ∃ B, lpF (mX6_leaks_s31 c1) (0, w) = some (sR w 10 B) ∧ ∀ a, a < 21 → B a = nI (bn D f a) := by
  have e := lp_fd0 (S := mX6_leaks_s31 c1) (fun k (y : Nat → Int32) => (nI k, sR w 10 y)) (fun k y => upd y (0 + k) (nI (bn D f k))) (fun y => sR w 10 y) 21 (gR w 10)
    (fun k y hk => by
      unfold mX6_leaks_s31
      dsimp only
      rw [if_neg (show ¬ (21 : Int32) ≤ nI k from nI_ge (b := 21) hk (by decide)), gd_t (i_k hk (by decide)), i_cl (by omega), sR_sR, show gR (sR w 10 y) 10 = y from rfl, e_lk46 hD h hk, bs, i_s, Nat.zero_add])
    (fun y => by
      unfold mX6_leaks_s31
      dsimp only
      rw [if_pos (by decide)])
  rw [sR_self] at e
  refine ⟨_, e, fun a ha => ?_⟩
  rw [fd_up 0 (fun k => nI (bn D f k)), if_pos (by omega)]
  rfl
theorem e_leaks6 {w : KS} {W e : Nat → Nat} {t : Nat} (ht : t ≤ 99999) (he : ∀ a, a < 21 → e a ≤ 12000) (hW : ∀ g, g < 2731 → gA w 0 g = lN (W g)) (hB : ∀ a, a < 21 → gR w 10 a = nI (e a)) : ∃ w', lpF (mX6_leaks_s87 (nI t)) (0, 0, w) = some (lN (sel W (lsS e t) 2731), w') ∧ GF w w' ∧ gA w' 0 = gA w 0 ∧ gL w' 0 = gL w 0 := by
  refine lp_gs (lsS e t) (fun k w1 y hk h1 h2 h3 => ?_) (fun w1 y => ?_)
  · have hy : gA w1 0 k = lN (W k) := by rw [h2]; exact hW k hk
    have hb : ∀ a, a < 21 → gR w1 10 a = nI (e a) := fun a ha => by rw [h1.2.1]; exact hB a ha
    have hle := am_le 4 he hk
    have hc : (nI t ≤ nI (am e 4 k)) ↔ t ≤ am e 4 k := nI_leI (by omega) (by omega)
    have fin : ∀ X : Int32, X = nI (am e 4 k) → (if nI t ≤ X then some (Sum.inr (y, nI (k + 1), opS w1 k)) else some (Sum.inr (y + lN (W k), nI (k + 1), opS w1 k))) = (some (Sum.inr (if lsS e t k then y + lN (W k) else y, nI (k + 1), opS w1 k)) : Option ((Int64 × KS) ⊕ (Int64 × Int32 × KS))) := by
      intro X hX
      rw [hX]
      unfold lsS
      by_cases c : t ≤ am e 4 k
      · rw [if_pos (hc.mpr c), if_neg (by rw [decide_eq_true_iff]; omega)]
      · rw [if_neg (fun z => c (hc.mp z)), if_pos (by rw [decide_eq_true_iff]; omega)]
    unfold mX6_leaks_s87
    dsimp only
    rw [if_neg (show ¬ (2731 : Int32) ≤ nI k from nI_ge (b := 2731) hk (by decide)), e_opens hk, bs, show gI (opS w1 k) 8 = oneF k from rfl, show gI (opS w1 k) 9 = twoF k from rfl, show gA (opS w1 k) 0 = gA w1 0 from rfl, show gR (opS w1 k) 10 = gR w1 10 from rfl, i_s, l_add0]
    simp only [gd_t (i_k hk (show 2731 < 2147483648 by decide)), show (nI k).toNatClampNeg = k from i_cl (by omega), hy]
    by_cases c0 : k = 0
    · subst c0
      rw [if_pos (show oneF 0 = -1 from rfl), if_pos (show twoF 0 = -1 from rfl)]
      exact fin (0 + 0) rfl
    · by_cases c1 : k < 85
      · have o3 : oneF k = nI ((k - 1) % 21) := by unfold oneF; rw [if_neg c0, if_pos c1]
        have o4 : twoF k = -1 := by unfold twoF; rw [if_pos c1]
        have ea : am e 4 k = e ((k - 1) % 21) := by
          unfold am; rw [if_neg c0, if_pos c1, if_neg (by omega)]
        rw [o3, o4, if_neg (nI_nm1 (by omega)), if_pos rfl, gd_t (i_k (show (k - 1) % 21 < 21 by omega) (by decide)), i_cl (by omega), hb _ (by omega)]
        exact fin _ (by rw [ea, Int32.add_zero])
      · have o3 : oneF k = nI ((k - 85) % 441 / 21) := by unfold oneF; rw [if_neg c0, if_neg c1]
        have o4 : twoF k = nI ((k - 85) % 441 % 21) := by unfold twoF; rw [if_neg c1]
        have hO : pO ((k - 85) / 441) < 3 := by unfold pO; split; · decide
                                                · split <;> decide
        have hT : pT ((k - 85) / 441) < 4 := by unfold pT; split; · omega
                                                · split <;> omega
        have ea : am e 4 k = e ((k - 85) % 441 / 21) + e ((k - 85) % 441 % 21) := by
          unfold am; rw [if_neg c0, if_neg c1, if_neg (by omega), if_neg (by omega)]
        rw [o3, o4, if_neg (nI_nm1 (by omega)), if_neg (nI_nm1 (by omega)), gd_t (i_k (show (k - 85) % 441 / 21 < 21 by omega) (by decide)), gd_t (i_k (show (k - 85) % 441 % 21 < 21 by omega) (by decide)), i_cl (by omega), i_cl (by omega), hb _ (by omega), hb _ (by omega)]
        exact fin _ (by rw [ea, i_add])
  · unfold mX6_leaks_s87
    dsimp only
    rw [if_pos (by decide)]
theorem lm_leaks : LM_leaks Rel := by
  intro u k0 k1 v a1 hR
  unfold mX5_leaks mX6_leaks
  rw [e_inc a1 0 99999 (l := 0) (h := 99999) rfl rfl, bs, b_i2]
  by_cases c : 0 ≤ a1.toInt ∧ a1.toInt ≤ 99999
  · rw [if_neg (by (simp only [z_lt, z_le, z_gt, z_ge, z_eq, zm1, zm2, Int32.reduceToInt] at *; omega)), if_pos (by (simp only [z_lt, z_le, z_gt, z_ge, z_eq, zm1, zm2, Int32.reduceToInt] at *; omega)), if_pos c]
    obtain ⟨u', v', L, K, P, h1, h2, h3⟩ := rel_gs hR
    rcases h3 with ⟨p1, p2⟩ | ⟨D, p1, p2, hD, hf, hMP, hDR, hi1, hday, hA, hL, hMG, hs0, hs1⟩
    · rw [p1, p2, bs, bs]
      exact lm_n (u := u) (v := v) h1.rel h2 rfl rfl
    · obtain ⟨t, ht, rfl⟩ := n_ex (n := 99999) c
      rw [p1, p2, bs, bs]
      dsimp only
      rw [if_pos (show (0 : Int32) = 0 from rfl), if_neg (show ¬ (1 : Int32) = 0 by decide)]
      have hbn : ∀ a, a < 21 → bn D (nat (gR v' 0 4)) a ≤ 12000 := fun a ha => bn_le hD hf ha
      obtain ⟨F, f1, f2⟩ := e_burnt5 hD hf hDR
      obtain ⟨G, g1, g2⟩ := e_addUp (u := sR u' 11 F) (e := bn D (nat (gR v' 0 4))) (cut := 4) f2
      have hbel := e_below (u := sR (sR u' 11 F) 12 G) (W := BW D (gR v' 0) K) (e := bn D (nat (gR v' 0 4))) ht hbn hA g2
      obtain ⟨B, b1, b2⟩ := e_burnt6 (c1 := nI t) hD hMP
      obtain ⟨w', q1, q2, q3, q4⟩ := e_leaks6 (w := sR v' 10 B) (W := BW D (gR v' 0) K) (e := bn D (nat (gR v' 0 4))) ht hbn hMG.1 b2
      have hu3 : RelD (sR (sR u' 11 F) 12 G) k0 k1 v' L K P := RelD_same h1 (((EF.rf u').R (Or.inl rfl) F).R (Or.inr rfl) G) rfl rfl
      have hv1 : MF v' (sR v' 10 B) := ⟨rfl, fun k hk => by rw [s_RR, if_neg (by omega)]⟩
      have hrel := ((hu3.mf hv1).gf q2).rel
      have hsl := sel_le (BW D (gR v' 0) K) (lsS (bn D (nat (gR v' 0 4))) t) 2731
      obtain ⟨u2, v2, s1, s2, s3, s4⟩ := lm_share hrel (p := sel (BW D (gR v' 0) K) (lsS (bn D (nat (gR v' 0 4))) t) 2731) (q := sm (BW D (gR v' 0) K) 2731) (by omega) ⟨hs0, by omega⟩
      have hgl : gL (sR (sR u' 11 F) 12 G) 0 = lN (sm (BW D (gR v' 0) K) 2731) := hL
      have hgl6 : gL w' 0 = lN (sm (BW D (gR v' 0) K) 2731) := q4.trans hMG.2
      rw [f1, bs, g1, bs, hbel, bs, hgl, s1, bs, b1, bs, q1, bs]
      dsimp only
      rw [hgl6, s2, bs]
      exact ⟨1, u2, v2, rfl, rfl, s3, s4.trans h2⟩
  · refine lm_b hR (j := 0) (by decide) (-2) ?_ ?_
    · have hb : ((mX5_bad u).bind fun r => some (r.1, r.2)) = some (-2, b5 u 0) := by rw [e_bad5]; rfl
      rw [hb]
      by_cases d1 : a1 < 0
      · rw [if_pos d1]
      · rw [if_neg d1, if_neg (by (simp only [z_lt, z_le, z_gt, z_ge, z_eq, zm1, zm2, Int32.reduceToInt] at *; omega))]
    · rw [if_neg c, e_bad6]
      rfl
