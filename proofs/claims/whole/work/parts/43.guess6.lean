/-! the model weighs -/
def GF (w w' : KS) : Prop := (∀ k, k < 6 ∨ 10 ≤ k → gI w' k = gI w k) ∧ gR w' = gR w ∧ (∀ k, k ≠ 0 → gA w' k = gA w k)
theorem GF.rf (u : KS) : GF u u := ⟨fun _ _ => rfl, rfl, fun _ _ => rfl⟩
theorem GF.tr {u v w : KS} (h : GF u v) (g : GF v w) : GF u w := ⟨fun k hk => (g.1 k hk).trans (h.1 k hk), g.2.1.trans h.2.1, fun k hk => (g.2.2 k hk).trans (h.2.2 k hk)⟩
theorem GF.op {u v : KS} (h : GF u v) (g : Nat) : GF u (opS v g) := ⟨fun k hk => by
  unfold opS
  rw [s_II, if_neg (by omega), s_II, if_neg (by omega), s_II, if_neg (by omega), s_II, if_neg (by omega)]; exact h.1 k hk, h.2.1, h.2.2⟩
theorem GF.A {u v : KS} (h : GF u v) (f : Nat → Int64) : GF u (sA v 0 f) := ⟨h.1, h.2.1, fun j hj => by rw [s_AA, if_neg hj]; exact h.2.2 j hj⟩
theorem GF.L {u v : KS} (h : GF u v) (x : Int64) : GF u (sL v 0 x) := ⟨h.1, h.2.1, h.2.2⟩
theorem GF.mf {v v' : KS} (h : GF v v') : MF v v' := ⟨h.1 0 (by decide), fun k _ => by rw [h.2.1]⟩
theorem GF.mp {v v' : KS} {D : List (Nat × Nat)} {f : Nat} (h : GF v v') (g : MP v D f) : MP v' D f := by
  unfold MP MD
  rw [h.1 5 (by decide), h.2.1]
  exact g
theorem lev6 {x t : Nat} {X T : Int32} (hX : X = nI x) (hT : T = nI t) (hx : x < 2147483648) (ht : t < 2147483648) : (if X = 0 then some (0 : Int32) else if T < X then some 2 else some 1) = some (nI (lev t x)) := by
  subst hX hT
  exact e_lev hx ht
theorem e_lev6 {w : KS} {D : List (Nat × Nat)} {f m c g thin : Nat} (hD : WD D) (hf : f ≤ 100) (h : MP w D f) (hm : m < D.length) (hc : c < 4) (hg : g < 2731) (ht : gR w 0 5 = nI thin ∧ thin ≤ 40) (cut : Int32) : mX6_levelOf (opS w g) (nI m) (nI c) cut = some (nI (lev thin (am (fun a => gv D f a m c) cut.toInt g))) := by
  have hDl := hD.1
  have gg : ∀ a, a < 21 → mX6_given (opS w g) (nI a) (nI m) (nI c) = some (nI (gv D f a m c)) := fun a ha => by
    rw [e_given6 ha (by omega) hc]
    exact congrArg some (h.2.2 a m c ha hm hc)
  have gle : ∀ a, a < 21 → gv D f a m c < 100 := fun a ha => gv_le c hD hf ha
  have t5 : gR (opS w g) 0 5 = nI thin := ht.1
  have ht2 : thin < 2147483648 := by omega
  unfold mX6_levelOf
  rw [show gI (opS w g) 6 = oneA g from rfl, show gI (opS w g) 7 = twoA g from rfl, show gI (opS w g) 8 = oneF g from rfl, show gI (opS w g) 9 = twoF g from rfl, show (5 : Int32).toNatClampNeg = 5 from rfl, t5]
  by_cases c0 : g = 0
  · subst c0
    rw [if_pos (show oneA 0 = -1 from rfl), if_pos (show twoA 0 = -1 from rfl)]
    rfl
  · by_cases c1 : g < 85
    · have o1 : oneA g = nI ((g - 1) / 21) := by unfold oneA; rw [if_neg c0, if_pos c1]
      have o2 : twoA g = -1 := by unfold twoA; rw [if_pos c1]
      have o3 : oneF g = nI ((g - 1) % 21) := by unfold oneF; rw [if_neg c0, if_pos c1]
      have ea : am (fun a => gv D f a m c) cut.toInt g = if (((g - 1) / 21 : Nat) : Int) = cut.toInt then 0 else gv D f ((g - 1) % 21) m c := by
        unfold am; rw [if_neg c0, if_pos c1]
      have cc := nI_cut (a := (g - 1) / 21) (by omega) cut
      have hl := gle ((g - 1) % 21) (by omega)
      rw [o1, o2, o3, ea, if_neg (nI_nm1 (by omega))]
      by_cases d : nI ((g - 1) / 21) = cut
      · rw [if_pos d, if_pos rfl, if_pos (cc.mp d)]
        rfl
      · rw [if_neg d, if_neg (fun q => d (cc.mpr q)), gg _ (by omega), bs, if_pos rfl]
        exact lev6 (Int32.zero_add _) rfl (by omega) ht2
    · have o1 : oneA g = nI (pO ((g - 85) / 441)) := by unfold oneA; rw [if_neg c0, if_neg c1]
      have o2 : twoA g = nI (pT ((g - 85) / 441)) := by unfold twoA; rw [if_neg c1]
      have o3 : oneF g = nI ((g - 85) % 441 / 21) := by unfold oneF; rw [if_neg c0, if_neg c1]
      have o4 : twoF g = nI ((g - 85) % 441 % 21) := by unfold twoF; rw [if_neg c1]
      have hO : pO ((g - 85) / 441) < 3 := by unfold pO; split; · decide
                                              · split <;> decide
      have hT : pT ((g - 85) / 441) < 4 := by unfold pT; split; · omega
                                              · split <;> omega
      have ea : am (fun a => gv D f a m c) cut.toInt g = (if ((pO ((g - 85) / 441) : Nat) : Int) = cut.toInt then 0 else gv D f ((g - 85) % 441 / 21) m c) + (if ((pT ((g - 85) / 441) : Nat) : Int) = cut.toInt then 0 else gv D f ((g - 85) % 441 % 21) m c) := by
        unfold am; rw [if_neg c0, if_neg c1]
      have cO := nI_cut (a := pO ((g - 85) / 441)) (by omega) cut
      have cT := nI_cut (a := pT ((g - 85) / 441)) (by omega) cut
      have hl1 := gle ((g - 85) % 441 / 21) (by omega)
      have hl2 := gle ((g - 85) % 441 % 21) (by omega)
      rw [o1, o2, o3, o4, ea, if_neg (nI_nm1 (by omega))]
      by_cases d : nI (pO ((g - 85) / 441)) = cut
      · rw [if_pos d, if_pos (cO.mp d), if_neg (nI_nm1 (by omega))]
        by_cases d2 : nI (pT ((g - 85) / 441)) = cut
        · rw [if_pos d2, if_pos (cT.mp d2)]
          rfl
        · rw [if_neg d2, if_neg (fun q => d2 (cT.mpr q)), gg _ (by omega), bs, Nat.zero_add]
          exact lev6 (Int32.zero_add _) rfl (by omega) ht2
      · rw [if_neg d, if_neg (fun q => d (cO.mpr q)), gg _ (by omega), bs, if_neg (nI_nm1 (by omega))]
        by_cases d2 : nI (pT ((g - 85) / 441)) = cut
        · rw [if_pos d2, if_pos (cT.mp d2), Nat.add_zero]
          exact lev6 (Int32.zero_add _) rfl (by omega) ht2
        · rw [if_neg d2, if_neg (fun q => d2 (cT.mpr q)), gg _ (by omega), bs]
          exact lev6 (by rw [Int32.zero_add, i_add]) rfl (by omega) ht2
theorem e_s94 {u w : KS} {D : List (Nat × Nat)} {L K P g : Nat} {x : Int32} {y : Int64} (hK : RK u (gR w 0) L K P) (hD : WD D) (h : MP w D (nat (gR w 0 4))) (hg : g < 2731) (hy : y = lN (wB (nat (gR w 0 7)) (bpr (gR w 0)) g)) : lpF (mX6_weighs_s94 (opS w g) x) (y, 0) = some (lN (BW D (gR w 0) K g)) := by
  obtain ⟨n5, n6, n7, -⟩ := Ks_n hK.2.1
  have f4 := (b4_n hK.2.1).2
  have hl := hK.2.2.2.2.1
  have hK8 := hl.1
  have hDl := hD.1
  subst hy
  have e := lp_fd (S := mX6_weighs_s94 (opS w g) x) (fun k (z : Int64) => (z, nI k)) (fun k z => lN (BW D (gR w 0) (k + 1) g)) id K (lN (BW D (gR w 0) 0 g)) (fun k z => z = lN (BW D (gR w 0) k g)) rfl (fun k z _ _ => rfl)
    (fun k z hk hz => by
      obtain ⟨l0, l1, l2, l3⟩ := hl.2.2.2.2 k hk
      obtain ⟨em, zm⟩ := nat_is (x := gR w 0 (20 + 4 * k)) l0.1
      obtain ⟨ec, zc⟩ := nat_is (x := gR w 0 (20 + (4 * k + 1))) l1.1
      have e20 : (20 : Int32) + 4 * nI k = nI (20 + 4 * k) := by rw [show (4 : Int32) = nI 4 from rfl, show (20 : Int32) = nI 20 from rfl, i_mul, i_add]
      have a1 : nI (20 + 4 * k) + 1 = nI (20 + (4 * k + 1)) := i_add _ 1
      have a2 : nI (20 + 4 * k) + 2 = nI (20 + (4 * k + 2)) := i_add _ 2
      have a3 : nI (20 + 4 * k) + 3 = nI (20 + (4 * k + 3)) := i_add _ 3
      have g0 : inb (nI (20 + 4 * k)) 200 := i_k (by omega) (by decide)
      have g1 : inb (nI (20 + (4 * k + 1))) 200 := i_k (by omega) (by decide)
      have g2 : inb (nI (20 + (4 * k + 2))) 200 := i_k (by omega) (by decide)
      have g3 : inb (nI (20 + (4 * k + 3))) 200 := i_k (by omega) (by decide)
      have c0 : (nI (20 + 4 * k)).toNatClampNeg = 20 + 4 * k := i_cl (by omega)
      have c1 : (nI (20 + (4 * k + 1))).toNatClampNeg = 20 + (4 * k + 1) := i_cl (by omega)
      have c2 : (nI (20 + (4 * k + 2))).toNatClampNeg = 20 + (4 * k + 2) := i_cl (by omega)
      have c3 : (nI (20 + (4 * k + 3))).toNatClampNeg = 20 + (4 * k + 3) := i_cl (by omega)
      unfold mX6_weighs_s94
      dsimp only
      rw [show gR (opS w g) 0 = gR w 0 from rfl, show gI (opS w g) 5 = gI w 5 from rfl, c_1, hl.2.2.1, if_neg (nI_ge hk (by omega)), e20, a1, a2, a3]
      simp only [gd_t g0, gd_t g1, gd_t g2, gd_t g3]
      rw [c0, c1, c2, c3, h.1.1, i_s]
      have hz' : z = lN (BW D (gR w 0) k g) := hz
      have zd : (nI D.length).toInt = (D.length : Int) := z_nN (by omega)
      have w_s : BW D (gR w 0) (k + 1) g = if (gR w 0 (20 + 4 * k)).toInt < D.length then BW D (gR w 0) k g * (if (lev (nat (gR w 0 5)) (am (fun a => gv D (nat (gR w 0 4)) a (nat (gR w 0 (20 + 4 * k))) (nat (gR w 0 (20 + (4 * k + 1))))) (gR w 0 (20 + (4 * k + 2))).toInt g) : Int) = (gR w 0 (20 + (4 * k + 3))).toInt then 2 * nat (gR w 0 6) else 10 - nat (gR w 0 6)) else BW D (gR w 0) k g := rfl
      rw [w_s]
      by_cases c : (gR w 0 (20 + 4 * k)).toInt < D.length
      · have el := e_lev6 (g := g) (thin := nat (gR w 0 5)) (m := nat (gR w 0 (20 + 4 * k))) (c := nat (gR w 0 (20 + (4 * k + 1)))) hD f4 h (by omega) (by omega) hg ⟨n5.1, n5.2.2⟩ (gR w 0 (20 + (4 * k + 2)))
        rw [← em, ← ec] at el
        have e2 : (2 * gR w 0 6 : Int32).toInt64 = lN (2 * nat (gR w 0 6)) := by
          have := n6.2
          rw [show (2 : Int32) * gR w 0 6 = nI 2 * nI (nat (gR w 0 6)) by rw [← n6.1]; rfl, i_mul, nI_l (by omega)]
        have e3 : (10 - gR w 0 6 : Int32).toInt64 = lN (10 - nat (gR w 0 6)) := by
          have := n6.2
          rw [show (10 : Int32) - gR w 0 6 = nI 10 - nI (nat (gR w 0 6)) by rw [← n6.1]; rfl, i_sub (by omega) (by decide), nI_l (by omega)]
        have hlv := lev_le (nat (gR w 0 5)) (am (fun a => gv D (nat (gR w 0 4)) a (nat (gR w 0 (20 + 4 * k))) (nat (gR w 0 (20 + (4 * k + 1))))) (gR w 0 (20 + (4 * k + 2))).toInt g)
        have e1 : (nI (lev (nat (gR w 0 5)) (am (fun a => gv D (nat (gR w 0 4)) a (nat (gR w 0 (20 + 4 * k))) (nat (gR w 0 (20 + (4 * k + 1))))) (gR w 0 (20 + (4 * k + 2))).toInt g)) = gR w 0 (20 + (4 * k + 3))) ↔ ((lev (nat (gR w 0 5)) (am (fun a => gv D (nat (gR w 0 4)) a (nat (gR w 0 (20 + 4 * k))) (nat (gR w 0 (20 + (4 * k + 1))))) (gR w 0 (20 + (4 * k + 2))).toInt g) : Int) = (gR w 0 (20 + (4 * k + 3))).toInt) := by rw [z_eq, z_nN (by omega)]
        rw [if_neg (by rw [z_le, zd]; omega), el, bs, if_pos c, show (6 : Int32).toNatClampNeg = 6 from rfl, e2, e3, hz', lN_mul, lN_mul]
        by_cases d : (lev (nat (gR w 0 5)) (am (fun a => gv D (nat (gR w 0 4)) a (nat (gR w 0 (20 + 4 * k))) (nat (gR w 0 (20 + (4 * k + 1))))) (gR w 0 (20 + (4 * k + 2))).toInt g) : Int) = (gR w 0 (20 + (4 * k + 3))).toInt
        · rw [if_pos (e1.mpr d), if_pos d]
        · rw [if_neg (fun q => d (e1.mp q)), if_neg d]
      · rw [if_pos (by rw [z_le, zd]; omega), if_neg c, hz'])
    (fun z _ => by
      unfold mX6_weighs_s94
      dsimp only
      rw [show gR (opS w g) 0 = gR w 0 from rfl, c_1, hl.2.2.1, if_pos (Int32.le_refl _)]
      rfl)
  refine e.trans (congrArg some ?_)
  cases K with
  | zero => rfl
  | succ k => rfl
theorem e_weightOf {u w : KS} {L K P a : Nat} (hK : RK u (gR w 0) L K P) (ha : a < 21) (g : Nat) : mX6_weightOf (opS w g) (nI a) = some (nI (wf (bpr (gR w 0)) a)) := by
  have e3 : (3 : Int32) - nI (a % 3) = nI (3 - a % 3) := i_sub (a := 3) (by omega) (by decide)
  unfold mX6_weightOf wf
  rw [show gR (opS w g) 0 = gR w 0 from rfl, i_div3 (by omega), i_mod3 (by omega), e3, show (8 : Int32) = nI 8 from rfl, i_add, gd_t (i_k (by omega) (by decide)), i_cl (by omega), (Kp_n hK.2.2.1 (a / 3) (by omega)).2.2, i_mul]
theorem e_w22 {u w : KS} {D : List (Nat × Nat)} {L K P g : Nat} (hK : RK u (gR w 0) L K P) (hD : WD D) (h : MP w D (nat (gR w 0 4))) (hg : g < 2731) : mX6_weighs_s22 (nI g, w) = some (.inr (nI (g + 1), sL (sA (opS w g) 0 (vp_updL (gA w 0) g (lN (BW D (gR w 0) K g)))) 0 (gL w 0 + lN (BW D (gR w 0) K g)))) := by
  obtain ⟨n5, n6, n7, -⟩ := Ks_n hK.2.1
  have hp9 : ∀ i, i < 7 → bpr (gR w 0) i ≤ 9 := fun i hi => (Kp_n hK.2.2.1 i hi).2.1
  unfold mX6_weighs_s22
  dsimp only
  rw [if_neg (show ¬ (2731 : Int32) ≤ nI g from nI_ge (b := 2731) hg (by decide)), e_opens hg, bs, show gR (opS w g) 0 = gR w 0 from rfl, show gA (opS w g) 0 = gA w 0 from rfl, show gL (opS w g) 0 = gL w 0 from rfl, show gI (opS w g) 8 = oneF g from rfl, show gI (opS w g) 9 = twoF g from rfl]
  simp only [gd_t (i_k hg (show 2731 < 2147483648 by decide)), show (nI g).toNatClampNeg = g from i_cl (by omega), i_s]
  have e0 : (nI g = 0) ↔ g = 0 := nI_eq (b := 0) (by omega) (by decide)
  by_cases c0 : g = 0
  · have hy : (gR w 0 (7 : Int32).toNatClampNeg).toInt64 = lN (wB (nat (gR w 0 7)) (bpr (gR w 0)) g) := by
      show (gR w 0 7).toInt64 = _
      unfold wB
      rw [if_pos c0]
      have := n7.2
      have e := nI_l (n := nat (gR w 0 7)) (by omega)
      rw [← n7.1] at e
      exact e
    rw [if_pos (e0.mpr c0), e_s94 hK hD h hg hy, bs]
  · rw [if_neg (fun q => c0 (e0.mp q))]
    by_cases c1 : g < 85
    · have o3 : oneF g = nI ((g - 1) % 21) := by unfold oneF; rw [if_neg c0, if_pos c1]
      have hy : 9 * (nI (wf (bpr (gR w 0)) ((g - 1) % 21))).toInt64 = lN (wB (nat (gR w 0 7)) (bpr (gR w 0)) g) := by
        have := wf_le hp9 (show (g - 1) % 21 < 21 by omega)
        unfold wB
        rw [if_neg c0, if_pos c1, nI_l (by omega), show (9 : Int64) = lN 9 from rfl, lN_mul]
      rw [if_neg (show ¬ (85 : Int32) ≤ nI g from nI_ge (b := 85) c1 (by decide)), o3, e_weightOf hK (by omega), bs, e_s94 hK hD h hg hy, bs]
    · have o3 : oneF g = nI ((g - 85) % 441 / 21) := by unfold oneF; rw [if_neg c0, if_neg c1]
      have o4 : twoF g = nI ((g - 85) % 441 % 21) := by unfold twoF; rw [if_neg c1]
      have hy : (nI (wf (bpr (gR w 0)) ((g - 85) % 441 / 21))).toInt64 * (nI (wf (bpr (gR w 0)) ((g - 85) % 441 % 21))).toInt64 = lN (wB (nat (gR w 0 7)) (bpr (gR w 0)) g) := by
        have q1 := wf_le hp9 (show (g - 85) % 441 / 21 < 21 by omega)
        have q2 := wf_le hp9 (show (g - 85) % 441 % 21 < 21 by omega)
        unfold wB
        rw [if_neg c0, if_neg c1, nI_l (by omega), nI_l (by omega), lN_mul]
      rw [if_pos (show (85 : Int32) ≤ nI g from nI_le (a := 85) (by omega) (by omega)), o3, o4, e_weightOf hK (by omega), bs, e_weightOf hK (by omega), bs, e_s94 hK hD h hg hy, bs]
theorem e_w22L {u w0 : KS} {D : List (Nat × Nat)} {L K P : Nat} (hK : RK u (gR w0 0) L K P) (hD : WD D) (h : MP w0 D (nat (gR w0 0 4))) : ∀ n g (w : KS), g + n = 2731 → GF w0 w → (∀ j, j < g → gA w 0 j = lN (BW D (gR w0 0) K j)) → gL w 0 = lN (sm (BW D (gR w0 0) K) g) → ∃ w', lpF mX6_weighs_s22 (nI g, w) = some w' ∧ GF w0 w' ∧ (∀ j, j < 2731 → gA w' 0 j = lN (BW D (gR w0 0) K j)) ∧ gL w' 0 = lN (sm (BW D (gR w0 0) K) 2731) := by
  intro n
  induction n with
  | zero =>
    intro g w h0 hF hA hL
    have h0 : g = 2731 := h0
    subst h0
    refine ⟨w, lp_stop ?_, hF, hA, hL⟩
    unfold mX6_weighs_s22
    dsimp only
    rw [if_pos (by decide)]
  | succ n ih =>
    intro g w h0 hF hA hL
    have hr : gR w 0 = gR w0 0 := by rw [hF.2.1]
    have st := e_w22 (w := w) (D := D) (L := L) (K := K) (P := P) (g := g) (by rw [hr]; exact hK) hD (by rw [hr]; exact hF.mp h) (by omega)
    rw [lp_go st]
    refine ih (g + 1) _ (by omega) (((hF.op g).A _).L _) (fun j hj => ?_) ?_
    · show vp_updL (gA w 0) g _ j = _
      by_cases c : j = g
      · rw [c, ul_is, hr]
      · rw [ul_no _ _ _ c]; exact hA j (by omega)
    · show gL w 0 + _ = _
      rw [hL, lN_add, hr]
      rfl
/-- the relation, with the guesses weighed on both sides -/
theorem RelD_ef {u u1 v : KS} {k0 k1 : Option KS} {L K P : Nat} {x : Int32} (h : RelD u k0 k1 v L K P) (e : EF u u1) (hc : x = 1 ∨ (x = 0 ∧ ∃ D, day (tx (gR v 0)) L = .inr D ∧ GsOk u1 D (nat (gR v 0 4)) (nat (gR v 0 5)) (nat (gR v 0 6)) (nat (gR v 0 7)) (bpr (gR v 0)) (blk (gR v 0)) K)) : RelD (sI u1 1 x) k0 k1 v L K P := by
  obtain ⟨⟨hT, hS, hp, hm, hl, hq⟩, a2, a3, a4, a5, a6, a7, a8⟩ := h
  have hd : DayOk (sI u1 1 x) (tx (gR v 0)) L (nat (gR v 0 4)) := by
    unfold DayOk at a8 ⊢
    have i5 : gI (sI u1 1 x) 5 = gI u 5 := e.1 5
    have i6 : gI (sI u1 1 x) 6 = gI u 6 := e.1 6
    have j7 : gR (sI u1 1 x) 7 = gR u 7 := e.2.1 7 (by decide)
    have j8 : gR (sI u1 1 x) 8 = gR u 8 := e.2.1 8 (by decide)
    have j9 : gR (sI u1 1 x) 9 = gR u 9 := e.2.1 9 (by decide)
    have j10 : gR (sI u1 1 x) 10 = gR u 10 := e.2.1 10 (by decide)
    rw [i5, i6, j7, j8, j9, j10]
    exact a8
  have z0 : gI (sI u1 1 x) 0 = 0 := (e.1 0).trans a7
  refine ⟨⟨Kt_cg hT (e.1 2) (e.2.1 1 (by decide)) rfl (fun _ _ => rfl), Ks_cg hS (e.2.1 2 (by decide)) (fun _ _ => rfl), Kp_cg hp (e.2.1 3 (by decide)) (fun _ _ => rfl), Km_cg hm (e.2.1 4 (by decide)) (fun _ _ => rfl), Kl_cg hl (e.1 3) (e.2.1 5 (by decide)) rfl (fun _ _ => rfl), Kq_cg hq (e.1 4) (e.2.1 6 (by decide)) rfl (fun _ _ => rfl)⟩, a2, a3, ?_, ?_, ⟨Or.inr ⟨z0, hd⟩, ?_⟩, z0, hd⟩
  · intro j hj
    show gR u1 0 j = _
    rw [e.2.1 0 (by decide)]
    exact a4 j hj
  · obtain ⟨h0, x', y', hb, hk, hw⟩ := a5
    refine ⟨h0, x', y', hb, fun k hk3 => ?_, hw⟩
    show gA u1 2 k = _ ∧ gA u1 3 k = _ ∧ _
    rw [e.2.2.2.1 2 (by decide), e.2.2.2.1 3 (by decide)]
    exact hk k hk3
  · rcases hc with hc | ⟨hc, D, h1, h2⟩
    · exact Or.inl hc
    · exact Or.inr ⟨hc, z0, D, h1, h2⟩
def MG (v : KS) (D : List (Nat × Nat)) (K : Nat) : Prop := (∀ g, g < 2731 → gA v 0 g = lN (BW D (gR v 0) K g)) ∧ gL v 0 = lN (sm (BW D (gR v 0) K) 2731)
theorem lN_0 {a : Nat} (ha : a < 9223372036854775808) : (lg_cmp (lN a) 0 = 0) ↔ a = 0 := by
  rw [z_cmp0]
  exact ⟨fun q => lN_inj ha (by decide) q, fun q => by rw [q]; rfl⟩
theorem lN_le0 {a : Nat} (ha : a < 9223372036854775808) : (lg_cmp (lN a) 0 ≤ 0) ↔ a = 0 := by
  rw [z_cmple, zl_le, zl_lN, show (0 : Int64).toInt = 0 from rfl]
  omega
theorem rel_gs {u v : KS} {k0 k1 : Option KS} (h : Rel u k0 k1 v) : ∃ u' v' L K P, RelD u' k0 k1 v' L K P ∧ gO u' = gO u ∧ ((mX5_noGuesses u = some (1, u') ∧ mX6_weighs v = some (0, v')) ∨ (∃ D, mX5_noGuesses u = some (0, u') ∧ mX6_weighs v = some (1, v') ∧ WD D ∧ nat (gR v' 0 4) ≤ 100 ∧ MP v' D (nat (gR v' 0 4)) ∧ DR u' D (nat (gR v' 0 4)) ∧ gI u' 1 = 0 ∧ day (tx (gR v' 0)) L = .inr D ∧ (∀ g, g < 2731 → gA u' 0 g = lN (BW D (gR v' 0) K g)) ∧ gL u' 0 = lN (sm (BW D (gR v' 0) K) 2731) ∧ MG v' D K ∧ 0 < sm (BW D (gR v' 0) K) 2731 ∧ sm (BW D (gR v' 0) K) 2731 < 36028797018963968)) := by
  obtain ⟨u1, L, K, P, q1, q2, q3⟩ := rel_day h
  obtain ⟨hL, hB⟩ := q2.bk
  obtain ⟨e4, f4⟩ := b4_n q2.1.2.1
  have e4' : gR v 0 4 = nI (nat (gR v 0 4)) := ((q2.1.2.1).1 0 (by decide)).symm.trans e4
  obtain ⟨v1, r1, r2, r3⟩ := e_passes (v := sL v 0 0) (f := nat (gR v 0 4)) hL hB f4
  rw [← e4'] at r1
  have r2m : MF v v1 := r2.mf
  have hd := q2.2.2.2.2.2.2.2
  unfold DayOk at hd
  unfold mX5_noGuesses mX6_weighs
  rw [q1, bs, c_4, r1, bs]
  cases hr : day (tx (gR v 0)) L with
  | inl s =>
    rw [hr] at hd
    have h1 := day_le hr
    refine ⟨u1, v1, L, K, P, q2.mf r2m, q3, Or.inl ⟨?_, rfl⟩⟩
    rw [if_neg (show ¬ gI u1 5 = -1 by rw [hd.1]; exact nI_nm1 (by omega))]
  | inr D =>
    rw [hr] at hd r3
    obtain ⟨hD, hM⟩ := r3
    have hb0 : gR v1 0 = gR v 0 := r2m.2 0 (by decide)
    have hDR : DR u1 D (nat (gR v 0 4)) := hd.2
    have hg0 : gL v1 0 = lN (sm (BW D (gR v1 0) K) 0) := by
      show (fun k => gL v1 k) 0 = _
      rw [r2.2.2.1]; rfl
    obtain ⟨v2, w1, w2, w3, w4⟩ := e_w22L (w0 := v1) (D := D) (L := L) (K := K) (P := P) (by rw [hb0]; exact q2.1) hD (by rw [hb0]; exact hM) 2731 0 v1 rfl (GF.rf v1) (fun j hj => absurd hj (Nat.not_lt_zero _)) hg0
    have w1' : lpF mX6_weighs_s22 (0, v1) = some v2 := w1
    have hb2 : gR v2 0 = gR v 0 := (w2.mf.2 0 (by decide)).trans hb0
    rw [hb0] at w3 w4
    have hsm := BW_sm q2.1 D
    have hq : RelD u1 k0 k1 v2 L K P := q2.mf (r2m.tr w2.mf)
    have cls : ∃ u2, (if gI u1 1 = 0 then (if lg_cmp (gL u1 0) 0 = 0 then some ((1 : Int32), u1) else some (0, u1)) else ((mX5_weighGuesses u1).bind fun r25 => if lg_cmp (gL r25 0) 0 = 0 then some (1, sI r25 1 0) else some (0, sI r25 1 0))) = some (if sm (BW D (gR v 0) K) 2731 = 0 then 1 else 0, u2) ∧ RelD u2 k0 k1 v2 L K P ∧ gO u2 = gO u1 ∧ DR u2 D (nat (gR v 0 4)) ∧ gI u2 1 = 0 ∧ (∀ g, g < 2731 → gA u2 0 g = lN (BW D (gR v 0) K g)) ∧ gL u2 0 = lN (sm (BW D (gR v 0) K) 2731) := by
      have fin : ∀ (w : KS), gL w 0 = lN (sm (BW D (gR v 0) K) 2731) → ∀ (w' : KS), (if lg_cmp (gL w 0) 0 = 0 then some ((1 : Int32), w') else some (0, w')) = some (if sm (BW D (gR v 0) K) 2731 = 0 then 1 else 0, w') := by
        intro w hw w'
        rw [hw]
        by_cases c : sm (BW D (gR v 0) K) 2731 = 0
        · rw [if_pos ((lN_0 (by omega)).mpr c), if_pos c]
        · rw [if_neg (fun q => c ((lN_0 (by omega)).mp q)), if_neg c]
      have wk : ∀ (hstale : ¬ gI u1 1 = 0), ∃ u2, (if gI u1 1 = 0 then (if lg_cmp (gL u1 0) 0 = 0 then some ((1 : Int32), u1) else some (0, u1)) else ((mX5_weighGuesses u1).bind fun r25 => if lg_cmp (gL r25 0) 0 = 0 then some (1, sI r25 1 0) else some (0, sI r25 1 0))) = some (if sm (BW D (gR v 0) K) 2731 = 0 then 1 else 0, u2) ∧ RelD u2 k0 k1 v2 L K P ∧ gO u2 = gO u1 ∧ DR u2 D (nat (gR v 0 4)) ∧ gI u2 1 = 0 ∧ (∀ g, g < 2731 → gA u2 0 g = lN (BW D (gR v 0) K g)) ∧ gL u2 0 = lN (sm (BW D (gR v 0) K) 2731) := by
        intro hs
        obtain ⟨u2, y1, y2, y3⟩ := e_weighG q2.1 hD hDR
        rw [if_neg hs, y1, bs]
        refine ⟨sI u2 1 0, fin u2 y3.2 _, RelD_ef hq y2 (Or.inr ⟨rfl, D, ?_, ?_⟩), y2.2.2.2.2, y2.dr hDR, rfl, y3.1, y3.2⟩
        · rw [hb2]; exact hr
        · rw [hb2]; exact y3
      rcases q2.2.2.2.2.2.1.2 with h9 | ⟨h9, h10, D', h11, h12⟩
      · exact wk (by rw [h9]; decide)
      · have hDD : D' = D := by
          have e := h11.symm.trans hr
          cases e; rfl
        subst hDD
        rw [if_pos h9]
        exact ⟨u1, fin u1 h12.2 _, hq, rfl, hDR, h9, h12.1, h12.2⟩
    obtain ⟨u2, y1, y2, y3, y4, y5, y6, y7⟩ := cls
    have hi5 : gI u1 5 = -1 := hd.1
    have hz : ¬ ((if (Sum.inr D : Nat ⊕ List (Nat × Nat)).isLeft = true then (0 : Int32) else 1) = 0) := (by decide : ¬ (1 : Int32) = 0)
    dsimp only
    rw [if_pos hi5, y1, if_neg hz, w1', bs, w4]
    refine ⟨u2, v2, L, K, P, y2, y3.trans q3, ?_⟩
    by_cases c : sm (BW D (gR v 0) K) 2731 = 0
    · rw [if_pos c, if_pos ((lN_le0 (by omega)).mpr c)]
      exact Or.inl ⟨rfl, rfl⟩
    · rw [if_neg c, if_neg (fun q => c ((lN_le0 (by omega)).mp q)), hb2]
      refine Or.inr ⟨D, rfl, rfl, hD, f4, w2.mp hM, y4, y5, hr, y6, y7, ⟨?_, ?_⟩, by omega, hsm⟩
      · rw [hb2]; exact w3
      · rw [hb2]; exact w4
