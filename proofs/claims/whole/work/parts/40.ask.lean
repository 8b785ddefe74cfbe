/-! days asked: warm, gives, smoke, goes, hidden -/
theorem rel_pass {u v : KS} {k0 k1 : Option KS} (h : Rel u k0 k1 v) : ∃ u' v' L K P, RelD u' k0 k1 v' L K P ∧ gO u' = gO u ∧ gR v' 0 = gR v 0 ∧ ((mX5_dayIsFaulty u = some (1, u') ∧ mX6_passes v (gR v 0 4) = some (0, v')) ∨ (∃ D f, mX5_dayIsFaulty u = some (0, u') ∧ mX6_passes v (gR v 0 4) = some (1, v') ∧ day (tx (gR v 0)) L = .inr D ∧ f = nat (gR v 0 4) ∧ WD D ∧ f ≤ 100 ∧ MP v' D f ∧ DR u' D f)) := by
  obtain ⟨u', L, K, P, q1, q2, q3⟩ := rel_faulty h
  obtain ⟨hL, hB⟩ := q2.bk
  obtain ⟨e4, f4⟩ := b4_n q2.1.2.1
  have e4' : gR v 0 4 = nI (nat (gR v 0 4)) := ((q2.1.2.1).1 0 (by decide)).symm.trans e4
  obtain ⟨v', r1, r2, r3⟩ := e_passes (f := nat (gR v 0 4)) hL hB f4
  rw [← e4'] at r1
  refine ⟨u', v', L, K, P, q2.mf r2.mf, q3, r2.mf.2 0 (by decide), ?_⟩
  have hd := q2.2.2.2.2.2.2.2
  unfold DayOk at hd
  cases hr : day (tx (gR v 0)) L with
  | inl s =>
    rw [hr] at q1 r1
    exact Or.inl ⟨q1, r1⟩
  | inr D =>
    rw [hr] at q1 r1 r3 hd
    exact Or.inr ⟨D, _, q1, r1, rfl, rfl, r3.1, f4, r3.2, hd.2⟩
theorem lm_n {u v u' v' : KS} {k0 k1 : Option KS} {o5 o6 : Option (Int32 × KS)} (h : Rel u' k0 k1 v') (hO : gO u' = gO u) (h5 : o5 = (mX5_no u').bind fun r8 => some (r8.1, r8.2)) (h6 : o6 = (mX6_no v').bind fun r14 => some (r14.1, r14.2)) : ∃ r u1 v1, o5 = some (r, u1) ∧ o6 = some (r, v1) ∧ Rel u1 k0 k1 v1 ∧ gO u1 = gO u := by
  refine ⟨-3, b5 u' 1, b6 v' 1, ?_, ?_, Rel_b h (by decide), hO⟩
  · rw [h5, e_no5]; rfl
  · rw [h6, e_no6]; rfl
theorem lm_bd {u v u' v' : KS} {k0 k1 : Option KS} {o5 o6 : Option (Int32 × KS)} (h : Rel u' k0 k1 v') (hO : gO u' = gO u) (h5 : o5 = (mX5_bad u').bind fun r8 => some (r8.1, r8.2)) (h6 : o6 = (mX6_bad v').bind fun r14 => some (r14.1, r14.2)) : ∃ r u1 v1, o5 = some (r, u1) ∧ o6 = some (r, v1) ∧ Rel u1 k0 k1 v1 ∧ gO u1 = gO u := by
  refine ⟨-2, b5 u' 0, b6 v' 0, ?_, ?_, Rel_b h (by decide), hO⟩
  · rw [h5, e_bad5]; rfl
  · rw [h6, e_bad6]; rfl
theorem lm_warm : LM_warm Rel := by
  intro u k0 k1 v a1 hR
  obtain ⟨u', v', L, K, P, h1, h2, h3, h4⟩ := rel_pass hR
  unfold mX5_warm mX6_warm
  rw [c_4]
  rcases h4 with ⟨p1, p2⟩ | ⟨D, f, p1, p2, p3, p4, hD, hf, hMP, hDR⟩
  · rw [p1, p2, bs, bs]
    exact lm_n (u := u) (v := v) h1.rel h2 rfl rfl
  · rw [p1, p2, bs, bs]
    have hDl := hD.1
    have zn : (nI D.length).toInt = (D.length : Int) := z_nN (by omega)
    have e6 := e_in a1.toInt64 0 (gI v' 5).toInt64
    rw [z_i2l, z_i2l, hMP.1.1, zn, show (0 : Int64).toInt = 0 from rfl] at e6
    dsimp only
    rw [if_pos (show (0 : Int32) = 0 from rfl), if_neg (show ¬ (1 : Int32) = 0 by decide), hMP.1.1, e6, bs, b_i2, hDR.1]
    by_cases c : 0 ≤ a1.toInt ∧ a1.toInt ≤ (D.length : Int)
    · obtain ⟨m, hm, rfl⟩ : ∃ m, m ≤ D.length ∧ a1 = nI m := by
        obtain ⟨g1, g2⟩ := nat_is (x := a1) c.1
        exact ⟨nat a1, by omega, g1⟩
      rw [if_pos c, if_neg (nI_pos (by omega)), if_pos (nI_le hm (by omega)), gd_t (i_k (by omega) (by decide)), i_cl (by omega), hMP.2.1 m hm, e_atN (by decide) _ (by omega), hDR.2.2 m hm, bs]
      exact ⟨_, u', v', rfl, rfl, h1.rel, h2⟩
    · rw [if_neg c]
      refine lm_bd (u := u) (v := v) h1.rel h2 ?_ rfl
      by_cases c1 : a1 < 0
      · rw [if_pos c1]
      · rw [if_neg c1, if_neg]
        rw [z_lt, show (0 : Int32).toInt = 0 from rfl] at c1
        rw [z_le, zn]
        omega
theorem e_has {u : KS} {n : Nat} (h : gI u 6 = nI n) (hn : n ≤ 120) (a : Int32) : mX0_has u a = some (if 0 ≤ a.toInt ∧ a.toInt < (n : Int) then 1 else 0) := by
  have zn : (nI n).toInt = (n : Int) := z_nN (by omega)
  unfold mX0_has
  rw [h]
  by_cases c1 : a < 0
  · rw [if_pos c1, if_neg]
    rw [z_lt, show (0 : Int32).toInt = 0 from rfl] at c1
    omega
  · rw [if_neg c1]
    rw [z_lt, show (0 : Int32).toInt = 0 from rfl] at c1
    by_cases c2 : nI n ≤ a
    · rw [if_pos c2, if_neg]
      rw [z_le, zn] at c2
      omega
    · rw [if_neg c2, if_pos]
      rw [z_le, zn] at c2
      omega
theorem e_isMin {v : KS} {n : Nat} (h : gI v 5 = nI n) (hn : n ≤ 120) (a : Int32) : mX6_isMinute v a = some (if 0 ≤ a.toInt ∧ a.toInt < (n : Int) then 1 else 0) := by
  have zn : (nI n).toInt = (n : Int) := z_nN (by omega)
  have zm : (nI n - 1).toInt = (n : Int) - 1 := by
    rw [z_subc (by rw [zn]; show (-2147483648 : Int) ≤ (n : Int) - 1; omega) (by rw [zn]; show (n : Int) - 1 < 2147483648; omega), zn]
    rfl
  unfold mX6_isMinute
  rw [h, e_in, z_i2l, z_i2l, zm, show (0 : Int64).toInt = 0 from rfl, bs]
  by_cases c : 0 ≤ a.toInt ∧ a.toInt < (n : Int)
  · rw [if_pos c, if_pos (by omega)]
    exact gd_t (Or.inr rfl)
  · rw [if_neg c, if_neg (by omega)]
    exact gd_t (Or.inl rfl)
theorem e_given6 {v : KS} {a m c : Nat} (ha : a < 21) (hm : m < 120) (hc : c < 4) : mX6_given v (nI a) (nI m) (nI c) = some (gR v 9 (480 * a + 4 * m + c)) := by
  unfold mX6_given
  rw [if_pos (nI_pos' (by omega)), show (480 : Int32) = nI 480 from rfl, show (4 : Int32) = nI 4 from rfl, i_mul, i_mul, i_add, i_add, gd_t (i_k (by omega) (by decide)), i_cl (by omega)]
theorem n_ex {a : Int32} {n : Nat} (h : 0 ≤ a.toInt ∧ a.toInt ≤ (n : Int)) : ∃ m, m ≤ n ∧ a = nI m := by
  obtain ⟨g1, g2⟩ := nat_is (x := a) h.1
  exact ⟨nat a, by omega, g1⟩
theorem lm_gives : LM_gives Rel := by
  intro u k0 k1 v a1 a2 a3 a4 hR
  obtain ⟨u', v', L, K, P, h1, h2, h3, h4⟩ := rel_pass hR
  unfold mX5_gives mX6_gives
  rw [c_4]
  rcases h4 with ⟨p1, p2⟩ | ⟨D, f, p1, p2, p3, p4, hD, hf, hMP, hDR⟩
  · rw [p1, p2, bs, bs]
    exact lm_n (u := u) (v := v) h1.rel h2 rfl rfl
  · rw [p1, p2, bs, bs]
    have hDl := hD.1
    dsimp only
    rw [if_pos (show (0 : Int32) = 0 from rfl), if_neg (show ¬ (1 : Int32) = 0 by decide), e_isFault, bs, b_i2, e_has hDR.1 hDl, bs, b_i2, e_isColor, bs, b_i2, e_inc a1 0 6 (l := 0) (h := 6) rfl rfl, bs, b_i2, e_inc a2 1 3 (l := 1) (h := 3) rfl rfl, bs, b_i2, e_inc a4 0 3 (l := 0) (h := 3) rfl rfl, bs, b_i2, e_isMin hMP.1.1 hDl, bs, b_i2]
    by_cases c : (0 ≤ a1.toInt ∧ a1.toInt ≤ 6) ∧ (1 ≤ a2.toInt ∧ a2.toInt ≤ 3) ∧ (0 ≤ a3.toInt ∧ a3.toInt < (D.length : Int)) ∧ 0 ≤ a4.toInt ∧ a4.toInt ≤ 3
    · obtain ⟨c1, c2, c3, c4⟩ := c
      rw [if_pos ⟨c1, c2⟩, if_pos c3, if_pos c4, if_pos c1, if_pos c2, if_pos c4, if_pos c3]
      obtain ⟨k, hk, rfl⟩ := n_ex (n := 6) c1
      obtain ⟨d, hd, rfl⟩ := n_ex (a := a2) (n := 3) ⟨by omega, c2.2⟩
      obtain ⟨m, hm, rfl⟩ := n_ex (a := a3) (n := 119) ⟨c3.1, by omega⟩
      obtain ⟨cc, hcc, rfl⟩ := n_ex (a := a4) (n := 3) c4
      have zm : (nI m).toInt = (m : Int) := z_nN (by omega)
      have zd : (nI d).toInt = (d : Int) := z_nN (by omega)
      have ef : (3 * nI k + nI d - 1 : Int32) = nI (3 * k + d - 1) := by
        rw [show (3 : Int32) = nI 3 from rfl, show (1 : Int32) = nI 1 from rfl, i_mul, i_add, i_sub (by omega) (by omega)]
      unfold mX5_faultOf
      rw [bs, ef, e_given5 hD hf hDR (by omega) (by omega) (by omega), e_given6 (by omega) (by omega) (by omega), hMP.2.2 _ _ _ (by omega) (by omega) (by omega), bs, bs]
      exact ⟨_, u', v', rfl, rfl, h1.rel, h2⟩
    · refine lm_bd (u := u) (v := v) h1.rel h2 ?_ ?_
      · by_cases c1 : (0 ≤ a1.toInt ∧ a1.toInt ≤ 6) ∧ 1 ≤ a2.toInt ∧ a2.toInt ≤ 3
        · rw [if_pos c1]
          by_cases c2 : 0 ≤ a3.toInt ∧ a3.toInt < (D.length : Int)
          · rw [if_pos c2, if_neg (fun q => c ⟨c1.1, c1.2, c2, q⟩)]
          · rw [if_neg c2]
        · rw [if_neg c1]
      · by_cases c1 : 0 ≤ a1.toInt ∧ a1.toInt ≤ 6
        · rw [if_pos c1]
          by_cases c2 : 1 ≤ a2.toInt ∧ a2.toInt ≤ 3
          · rw [if_pos c2]
            by_cases c3 : 0 ≤ a4.toInt ∧ a4.toInt ≤ 3
            · rw [if_pos c3, if_neg (fun q => c ⟨c1, c2, q, c3⟩)]
            · rw [if_neg c3]
          · rw [if_neg c2]
        · rw [if_neg c1]
/-- what a cylinder smokes -/
def cyv (D : List (Nat × Nat)) (f : Nat) (b : Nat → Int32) (m c k : Nat) : Int32 := if b (15 + k) = -1 then 0 else nI (gv D f (nat (b (15 + k))) m c)
def smk (D : List (Nat × Nat)) (f : Nat) (b : Nat → Int32) (m c : Nat) (cut : Int32) : Int32 := fd (fun k x => if nI k = cut then x else x + cyv D f b m c k) 4 0
theorem e_smoke5 {u : KS} {D : List (Nat × Nat)} {f m c : Nat} {b : Nat → Int32} (hD : WD D) (hf : f ≤ 100) (h : DR u D f) (hK : Km u b) (hm : m < D.length) (hc : c < 4) (cut : Int32) : mX5_smokeOf u (nI m) (nI c) cut = some (smk D f b m c cut) := by
  have e := lp_fd0 (S := mX5_smokeOf_s6 u (nI m) (nI c) cut) (fun k (x : Int32) => (x, nI k)) (fun k x => if nI k = cut then x else x + cyv D f b m c k) id 4 0
    (fun k x hk => by
      unfold mX5_smokeOf_s6 cyv
      dsimp only
      rw [if_neg (show ¬ (4 : Int32) ≤ nI k from nI_ge (b := 4) hk (by decide)), e_atN (by decide) _ hk, bs, (hK k hk).1, i_s]
      by_cases c1 : b (15 + k) = -1
      · rw [if_pos c1, if_pos c1, Int32.add_zero]
        split <;> rfl
      · rw [if_neg c1, if_neg c1]
        by_cases c2 : nI k = cut
        · rw [if_pos c2, if_pos c2]
        · rw [if_neg c2, if_neg c2]
          have hk2 := (hK k hk).2
          have hne : (b (15 + k)).toInt ≠ -1 := fun q => c1 ((m1_eq _).mpr q)
          obtain ⟨g1, g2⟩ := nat_is (x := b (15 + k)) (by omega)
          have g3 : nat (b (15 + k)) < 21 := by omega
          have e5 := e_given5 hD hf h g3 hm hc
          rw [← g1] at e5
          rw [e5, bs])
    (fun x => by
      unfold mX5_smokeOf_s6
      dsimp only
      rw [if_pos (by decide)]
      rfl)
  unfold mX5_smokeOf
  exact (congrArg (fun o => Option.bind o fun e => some e) e).trans rfl
theorem e_smoke6 {v : KS} {D : List (Nat × Nat)} {f m c : Nat} (hD : WD D) (h : MP v D f) (hK : ∀ i, i < 4 → -1 ≤ (gR v 0 (15 + i)).toInt ∧ (gR v 0 (15 + i)).toInt ≤ 20) (hm : m < D.length) (hc : c < 4) (cut : Int32) : mX6_smokeOf v (nI m) (nI c) cut = some (smk D f (gR v 0) m c cut) := by
  have hDl := hD.1
  have e := lp_fd0 (S := mX6_smokeOf_s6 v (nI m) (nI c) cut) (fun k (x : Int32) => (x, nI k)) (fun k x => if nI k = cut then x else x + cyv D f (gR v 0) m c k) id 4 0
    (fun k x hk => by
      unfold mX6_smokeOf_s6 cyv
      dsimp only
      rw [if_neg (show ¬ (4 : Int32) ≤ nI k from nI_ge (b := 4) hk (by decide)), i_s]
      by_cases c2 : nI k = cut
      · rw [if_pos c2, if_pos c2, Int32.add_zero]
      · have hk2 := hK k hk
        rw [if_neg c2, if_neg c2, show (15 : Int32) = nI 15 from rfl, i_add, gd_t (i_k (by omega) (by decide)), i_cl (by omega)]
        by_cases c1 : gR v 0 (15 + k) = -1
        · rw [if_pos c1, c1]
          rfl
        · rw [if_neg c1]
          have hne : (gR v 0 (15 + k)).toInt ≠ -1 := fun q => c1 ((m1_eq _).mpr q)
          obtain ⟨g1, g2⟩ := nat_is (x := gR v 0 (15 + k)) (by omega)
          have g3 : nat (gR v 0 (15 + k)) < 21 := by omega
          have e5 := e_given6 (v := v) g3 (show m < 120 by omega) hc
          rw [← g1, h.2.2 _ _ _ g3 hm hc] at e5
          rw [e5, bs])
    (fun x => by
      unfold mX6_smokeOf_s6
      dsimp only
      rw [if_pos (by decide)]
      rfl)
  unfold mX6_smokeOf
  exact (congrArg (fun o => Option.bind o fun e => some e) e).trans rfl
theorem Km_r {u : KS} {b : Nat → Int32} (h : Km u b) : ∀ i, i < 4 → -1 ≤ (b (15 + i)).toInt ∧ (b (15 + i)).toInt ≤ 20 := fun i hi => (h i hi).2
theorem lm_smoke : LM_smoke Rel := by
  intro u k0 k1 v a1 a2 a3 hR
  obtain ⟨u', v', L, K, P, h1, h2, h3, h4⟩ := rel_pass hR
  unfold mX5_smoke mX6_smoke
  rw [c_4]
  rcases h4 with ⟨p1, p2⟩ | ⟨D, f, p1, p2, p3, p4, hD, hf, hMP, hDR⟩
  · rw [p1, p2, bs, bs]
    exact lm_n (u := u) (v := v) h1.rel h2 rfl rfl
  · rw [p1, p2, bs, bs]
    have hDl := hD.1
    have hK := h1.1.2.2.2.1
    dsimp only
    rw [if_pos (show (0 : Int32) = 0 from rfl), if_neg (show ¬ (1 : Int32) = 0 by decide), e_has hDR.1 hDl, bs, b_i2, e_isColor, bs, b_i2, e_isCut, bs, b_i2, e_inc a2 0 3 (l := 0) (h := 3) rfl rfl, bs, b_i2, e_inc a3 (-1) 3 (l := -1) (h := 3) rfl rfl, bs, b_i2, e_isMin hMP.1.1 hDl, bs, b_i2]
    by_cases c : (0 ≤ a1.toInt ∧ a1.toInt < (D.length : Int)) ∧ (0 ≤ a2.toInt ∧ a2.toInt ≤ 3) ∧ -1 ≤ a3.toInt ∧ a3.toInt ≤ 3
    · obtain ⟨c1, c2, c3⟩ := c
      rw [if_pos c1, if_pos c2, if_pos c3, if_pos c2, if_pos c3, if_pos c1]
      obtain ⟨m, hm, rfl⟩ := n_ex (a := a1) (n := 119) ⟨c1.1, by omega⟩
      obtain ⟨cc, hcc, rfl⟩ := n_ex (a := a2) (n := 3) c2
      have zm : (nI m).toInt = (m : Int) := z_nN (by omega)
      rw [e_smoke5 hD hf hDR hK (by omega) (by omega), e_smoke6 hD hMP (Km_r hK) (by omega) (by omega), bs, bs]
      exact ⟨_, u', v', rfl, rfl, h1.rel, h2⟩
    · refine lm_bd (u := u) (v := v) h1.rel h2 ?_ ?_
      · by_cases c1 : 0 ≤ a1.toInt ∧ a1.toInt < (D.length : Int)
        · rw [if_pos c1]
          by_cases c2 : 0 ≤ a2.toInt ∧ a2.toInt ≤ 3
          · rw [if_pos c2, if_neg (fun q => c ⟨c1, c2, q⟩)]
          · rw [if_neg c2]
        · rw [if_neg c1]
      · by_cases c1 : 0 ≤ a2.toInt ∧ a2.toInt ≤ 3
        · rw [if_pos c1]
          by_cases c2 : -1 ≤ a3.toInt ∧ a3.toInt ≤ 3
          · rw [if_pos c2, if_neg (fun q => c ⟨q, c1, c2⟩)]
          · rw [if_neg c2]
        · rw [if_neg c1]
theorem lm_goes : LM_goes Rel := by
  intro u k0 k1 v a1 hR
  unfold mX5_goes mX6_goes
  rw [e_inc a1 0 1 (l := 0) (h := 1) rfl rfl, bs, b_i2]
  by_cases c : 0 ≤ a1.toInt ∧ a1.toInt ≤ 1
  · rw [if_pos c, if_neg (by (simp only [z_lt, z_le, z_gt, z_ge, z_eq, zm1, zm2, Int32.reduceToInt] at *; omega)), if_pos (by (simp only [z_lt, z_le, z_gt, z_ge, z_eq, zm1, zm2, Int32.reduceToInt] at *; omega)), c_4]
    obtain ⟨u', v', L, K, P, h1, h2, h3, h4⟩ := rel_pass hR
    rcases h4 with ⟨p1, p2⟩ | ⟨D, f, p1, p2, p3, p4, hD, hf, hMP, hDR⟩
    · rw [p1, p2, bs, bs]
      exact lm_n (u := u) (v := v) h1.rel h2 rfl rfl
    · rw [p1, p2, bs, bs]
      have hDl := hD.1
      have hK := h1.1.2.2.2.1
      dsimp only
      rw [if_pos (show (0 : Int32) = 0 from rfl), if_neg (show ¬ (1 : Int32) = 0 by decide)]
      obtain ⟨w, hw, rfl⟩ := n_ex (a := a1) (n := 1) c
      have e5 := lp_fd0 (S := mX5_goes_s30 u' (nI w)) (fun k (x : Int32) => (x, nI k)) (fun k x => x + smk D f (gR v' 0) k w (-1)) id D.length 0
        (fun k x hk => by
          unfold mX5_goes_s30
          dsimp only
          rw [hDR.1, if_neg (nI_ge hk (by omega)), i_s]
          rcases (show w = 0 ∨ w = 1 by omega) with q | q <;> subst q
          · rw [if_pos (show nI 0 = 0 from rfl), show (0 : Int32) = nI 0 from rfl, e_smoke5 hD hf hDR hK hk (by decide), bs]
          · rw [if_neg (show ¬ nI 1 = 0 by decide), show (1 : Int32) = nI 1 from rfl, e_smoke5 hD hf hDR hK hk (by decide), bs])
        (fun x => by
          unfold mX5_goes_s30
          dsimp only
          rw [hDR.1, if_pos (Int32.le_refl _)]
          rfl)
      have e6 := lp_fd0 (S := mX6_goes_s37 v' (nI w)) (fun k (x : Int32) => (x, nI k)) (fun k x => x + smk D f (gR v' 0) k w (-1)) id D.length 0
        (fun k x hk => by
          unfold mX6_goes_s37
          dsimp only
          rw [hMP.1.1, if_neg (nI_ge hk (by omega)), i_s, e_smoke6 hD hMP (Km_r hK) hk (by omega), bs])
        (fun x => by
          unfold mX6_goes_s37
          dsimp only
          rw [hMP.1.1, if_pos (Int32.le_refl _)]
          rfl)
      refine ⟨_, u', v', (congrArg (fun o => Option.bind o fun e => some (e, u')) e5).trans rfl, (congrArg (fun o => Option.bind o fun e => some (e, v')) e6).trans rfl, h1.rel, h2⟩
  · rw [if_neg c]
    refine lm_bd (u := u) (v := v) hR rfl ?_ rfl
    by_cases c1 : a1 < 0
    · rw [if_pos c1]
    · rw [if_neg c1, if_neg (by (simp only [z_lt, z_le, z_gt, z_ge, z_eq, zm1, zm2, Int32.reduceToInt] at *; omega))]
/-! hidden -/
theorem gn12 {u : KS} {D : List (Nat × Nat)} {f a m : Nat} (hD : WD D) (hf : f ≤ 100) (h : DR u D f) (ha : a < 21) (hm : m < D.length) : ∀ n c0, c0 + n = 4 → ((∀ c, c0 ≤ c → c < 4 → gv D f a m c = 0) → lpF (mX0_givesNothing_s12 u (nI a) (nI m)) (nI c0) = some (.inl ())) ∧ ((∃ c, c0 ≤ c ∧ c < 4 ∧ gv D f a m c ≠ 0) → lpF (mX0_givesNothing_s12 u (nI a) (nI m)) (nI c0) = some (.inr ())) := by
  intro n
  induction n with
  | zero =>
    intro c0 h0
    have h0 : c0 = 4 := h0
    subst h0
    refine ⟨fun _ => lp_stop ?_, fun ⟨c, q1, q2, _⟩ => by omega⟩
    unfold mX0_givesNothing_s12
    rw [if_pos (by decide)]
  | succ n ih =>
    intro c0 h0
    have hg := gv_le c0 (m := m) hD hf ha
    have le0 : (nI (gv D f a m c0) ≤ 0) ↔ gv D f a m c0 = 0 := by
      rw [show (0 : Int32) = nI 0 from rfl, nI_leI (by omega) (by decide)]; omega
    have st : mX0_givesNothing_s12 u (nI a) (nI m) (nI c0) = if gv D f a m c0 = 0 then some (.inr (nI (c0 + 1))) else some (.inl (.inr ())) := by
      unfold mX0_givesNothing_s12
      rw [if_neg (show ¬ (4 : Int32) ≤ nI c0 from nI_ge (b := 4) (by omega) (by decide)), e_given5 hD hf h ha hm (by omega), bs, i_s]
      by_cases c : gv D f a m c0 = 0
      · rw [if_pos (le0.mpr c), if_pos c]
      · rw [if_neg (fun q => c (le0.mp q)), if_neg c]
    by_cases c : gv D f a m c0 = 0
    · rw [if_pos c] at st
      rw [lp_go st]
      refine ⟨fun q => (ih (c0 + 1) (by omega)).1 (fun c' q1 q2 => q c' (by omega) q2), fun ⟨c', q1, q2, q3⟩ => (ih (c0 + 1) (by omega)).2 ⟨c', ?_, q2, q3⟩⟩
      by_cases r : c' = c0
      · rw [r] at q3; exact absurd c q3
      · omega
    · rw [if_neg c] at st
      exact ⟨fun q => absurd (q c0 (Nat.le_refl _) (by omega)) c, fun _ => lp_stop st⟩
theorem gn2 {u : KS} {D : List (Nat × Nat)} {f a : Nat} (hD : WD D) (hf : f ≤ 100) (h : DR u D f) (ha : a < 21) : ∀ n m0, m0 + n = D.length → ((∀ m c, m0 ≤ m → m < D.length → c < 4 → gv D f a m c = 0) → lpF (mX0_givesNothing_s2 u (nI a)) (nI m0) = some (.inl ())) ∧ ((∃ m c, m0 ≤ m ∧ m < D.length ∧ c < 4 ∧ gv D f a m c ≠ 0) → lpF (mX0_givesNothing_s2 u (nI a)) (nI m0) = some (.inr ())) := by
  have hDl := hD.1
  intro n
  induction n with
  | zero =>
    intro m0 h0
    have h0 : m0 = D.length := h0
    refine ⟨fun _ => lp_stop ?_, fun ⟨m, c, q1, q2, _⟩ => by omega⟩
    unfold mX0_givesNothing_s2
    rw [h.1, h0, if_pos (Int32.le_refl _)]
  | succ n ih =>
    intro m0 h0
    obtain ⟨g1, g2⟩ := gn12 hD hf h ha (show m0 < D.length by omega) 4 0 rfl
    by_cases c : ∀ c, 0 ≤ c → c < 4 → gv D f a m0 c = 0
    · have st : mX0_givesNothing_s2 u (nI a) (nI m0) = some (.inr (nI (m0 + 1))) := by
        unfold mX0_givesNothing_s2
        rw [h.1, if_neg (nI_ge (by omega) (by omega)), show (0 : Int32) = nI 0 from rfl, g1 c, bs, i_s]
        rfl
      rw [lp_go st]
      refine ⟨fun q => (ih (m0 + 1) (by omega)).1 (fun m' c' q1 q2 q3 => q m' c' (by omega) q2 q3), fun ⟨m', c', q1, q2, q3, q4⟩ => (ih (m0 + 1) (by omega)).2 ⟨m', c', ?_, q2, q3, q4⟩⟩
      by_cases r : m' = m0
      · rw [r] at q4; exact absurd (c c' (Nat.zero_le _) q3) q4
      · omega
    · have hex : ∃ c, 0 ≤ c ∧ c < 4 ∧ gv D f a m0 c ≠ 0 := by
        refine Classical.byContradiction fun q => c (fun c' q1 q2 => ?_)
        exact Classical.byContradiction fun r => q ⟨c', q1, q2, r⟩
      have st : mX0_givesNothing_s2 u (nI a) (nI m0) = some (.inl (.inr ())) := by
        unfold mX0_givesNothing_s2
        rw [h.1, if_neg (nI_ge (by omega) (by omega)), show (0 : Int32) = nI 0 from rfl, g2 hex, bs]
        rfl
      refine ⟨fun q => absurd (fun c' _ q2 => q m0 c' (Nat.le_refl _) (by omega) q2) c, fun _ => lp_stop st⟩
theorem e_gn {u : KS} {D : List (Nat × Nat)} {f a : Nat} (hD : WD D) (hf : f ≤ 100) (h : DR u D f) (ha : a < 21) : ((∀ m c, m < D.length → c < 4 → gv D f a m c = 0) → mX0_givesNothing u (nI a) = some 1) ∧ ((∃ m c, m < D.length ∧ c < 4 ∧ gv D f a m c ≠ 0) → mX0_givesNothing u (nI a) = some 0) := by
  obtain ⟨g1, g2⟩ := gn2 hD hf h ha D.length 0 (by omega)
  unfold mX0_givesNothing
  rw [show (0 : Int32) = nI 0 from rfl]
  refine ⟨fun q => ?_, fun ⟨m, c, q1, q2, q3⟩ => ?_⟩
  · rw [g1 (fun m c _ h2 h3 => q m c h2 h3), bs]; rfl
  · rw [g2 ⟨m, c, Nat.zero_le _, q1, q2, q3⟩, bs]; rfl
theorem sm_0 {f : Nat → Nat} : ∀ n, sm f n = 0 ↔ ∀ k, k < n → f k = 0 := by
  intro n
  induction n with
  | zero => exact ⟨fun _ k hk => absurd hk (Nat.not_lt_zero _), fun _ => rfl⟩
  | succ n ih =>
    show sm f n + f n = 0 ↔ _
    constructor
    · intro h k hk
      by_cases c : k = n
      · rw [c]; omega
      · exact ih.mp (by omega) k (by omega)
    · intro h
      have h1 := ih.mpr (fun k hk => h k (by omega))
      have h2 := h n (by omega)
      omega
theorem sm_le {f : Nat → Nat} {b : Nat} : ∀ n, (∀ k, k < n → f k ≤ b) → sm f n ≤ n * b := by
  intro n
  induction n with
  | zero => intro _; exact Nat.zero_le _
  | succ n ih =>
    intro h
    have h1 := ih (fun k hk => h k (by omega))
    have h2 := h n (by omega)
    show sm f n + f n ≤ _
    rw [Nat.succ_mul]
    omega
theorem e_hid {v : KS} {D : List (Nat × Nat)} {f kd : Nat} (x : Int32) (hD : WD D) (hf : f ≤ 100) (h : MP v D f) (hk : kd < 7) : lpF (mX6_hidden_s29 v x (nI kd)) (0, 0) = some (nI (sm (fun k => gv D f (3 * kd + 2) (k / 4) (k % 4)) (4 * D.length))) := by
  have hDl := hD.1
  have e := lp_fd0 (S := mX6_hidden_s29 v x (nI kd)) (fun k (x : Int32) => (x, nI k)) (fun k x => x + nI (gv D f (3 * kd + 2) (k / 4) (k % 4))) id (4 * D.length) 0
    (fun k y hk2 => by
      unfold mX6_hidden_s29
      dsimp only
      have e1 : (4 : Int32) * gI v 5 = nI (4 * D.length) := by rw [h.1.1, show (4 : Int32) = nI 4 from rfl, i_mul]
      have e2 : (480 : Int32) * (3 * nI kd + 2) + nI k = nI (480 * (3 * kd + 2) + k) := by
        rw [show (480 : Int32) = nI 480 from rfl, show (3 : Int32) = nI 3 from rfl, show (2 : Int32) = nI 2 from rfl, i_mul, i_add, i_mul, i_add]
      have e3 := h.2.2 (3 * kd + 2) (k / 4) (k % 4) (by omega) (by omega) (by omega)
      rw [show 480 * (3 * kd + 2) + 4 * (k / 4) + k % 4 = 480 * (3 * kd + 2) + k by omega] at e3
      rw [e1, if_neg (nI_ge hk2 (by omega)), e2, gd_t (i_k (by omega) (by decide)), i_cl (by omega), e3, i_s])
    (fun y => by
      unfold mX6_hidden_s29
      dsimp only
      have e1 : (4 : Int32) * gI v 5 = nI (4 * D.length) := by rw [h.1.1, show (4 : Int32) = nI 4 from rfl, i_mul]
      rw [e1, if_pos (Int32.le_refl _)]
      rfl)
  have key : ∀ n, fd (fun k x => x + nI (gv D f (3 * kd + 2) (k / 4) (k % 4))) n 0 = nI (sm (fun k => gv D f (3 * kd + 2) (k / 4) (k % 4)) n) := by
    intro n
    induction n with
    | zero => rfl
    | succ n ih => rw [fd_s, ih, i_add]; rfl
  rw [key] at e
  exact e
theorem e_hidL {u v : KS} {D : List (Nat × Nat)} {f : Nat} (hD : WD D) (hf : f ≤ 100) (hM : MP v D f) (hR : DR u D f) : ∀ n k (x : Int32), k + n = 7 → ∃ r, lpF (mX5_hidden_s25 u) (x, nI k) = some r ∧ lpF (mX6_hidden_s18 v) (x, nI k) = some r := by
  have hDl := hD.1
  intro n
  induction n with
  | zero =>
    intro k x h0
    have h0 : k = 7 := h0
    subst h0
    refine ⟨x, lp_stop ?_, lp_stop ?_⟩
    · unfold mX5_hidden_s25
      dsimp only
      rw [if_pos (by decide)]
    · unfold mX6_hidden_s18
      dsimp only
      rw [if_pos (by decide)]
  | succ n ih =>
    intro k x h0
    have ef : (3 * nI k + 3 - 1 : Int32) = nI (3 * k + 2) := by
      rw [show (3 : Int32) = nI 3 from rfl, show (1 : Int32) = nI 1 from rfl, i_mul, i_add, i_sub (by omega) (by omega)]
      rfl
    obtain ⟨g1, g2⟩ := e_gn (a := 3 * k + 2) hD hf hR (by omega)
    have hs := e_hid (kd := k) x hD hf hM (by omega)
    have hle := sm_le (f := fun k' => gv D f (3 * k + 2) (k' / 4) (k' % 4)) (b := 100) (4 * D.length) (fun k' _ => by
      have := gv_le (k' % 4) (m := k' / 4) hD hf (show 3 * k + 2 < 21 by omega)
      omega)
    have h0' := sm_0 (f := fun k' => gv D f (3 * k + 2) (k' / 4) (k' % 4)) (4 * D.length)
    by_cases c : ∀ m c, m < D.length → c < 4 → gv D f (3 * k + 2) m c = 0
    · have hz : sm (fun k' => gv D f (3 * k + 2) (k' / 4) (k' % 4)) (4 * D.length) = 0 := h0'.mpr (fun k' hk' => c _ _ (by omega) (by omega))
      have s5 : mX5_hidden_s25 u (x, nI k) = some (.inr (x ||| ((1 : Int32) <<< (nI k &&& 31)), nI (k + 1))) := by
        unfold mX5_hidden_s25 mX5_faultOf
        dsimp only
        rw [if_neg (show ¬ (7 : Int32) ≤ nI k from nI_ge (b := 7) (by omega) (by decide)), bs, ef, g1 c, bs, if_neg (by decide), i_s]
      have s6 : mX6_hidden_s18 v (x, nI k) = some (.inr (x ||| ((1 : Int32) <<< (nI k &&& 31)), nI (k + 1))) := by
        unfold mX6_hidden_s18
        dsimp only
        rw [if_neg (show ¬ (7 : Int32) ≤ nI k from nI_ge (b := 7) (by omega) (by decide)), hs, bs, hz, if_pos (show nI 0 = 0 from rfl), i_s]
      rw [lp_go s5, lp_go s6]
      exact ih (k + 1) _ (by omega)
    · have hex : ∃ m c, m < D.length ∧ c < 4 ∧ gv D f (3 * k + 2) m c ≠ 0 := by
        refine Classical.byContradiction fun q => c (fun m' c' q1 q2 => ?_)
        exact Classical.byContradiction fun r => q ⟨m', c', q1, q2, r⟩
      have hz : ¬ sm (fun k' => gv D f (3 * k + 2) (k' / 4) (k' % 4)) (4 * D.length) = 0 := by
        intro q
        obtain ⟨m, c', q1, q2, q3⟩ := hex
        have := h0'.mp q (4 * m + c') (by omega)
        rw [show (4 * m + c') / 4 = m by omega, show (4 * m + c') % 4 = c' by omega] at this
        exact q3 this
      have s5 : mX5_hidden_s25 u (x, nI k) = some (.inr (x, nI (k + 1))) := by
        unfold mX5_hidden_s25 mX5_faultOf
        dsimp only
        rw [if_neg (show ¬ (7 : Int32) ≤ nI k from nI_ge (b := 7) (by omega) (by decide)), bs, ef, g2 hex, bs, if_pos rfl, i_s]
      have hz2 : ¬ nI (sm (fun k' => gv D f (3 * k + 2) (k' / 4) (k' % 4)) (4 * D.length)) = 0 := fun q => hz ((nI_eq (b := 0) (by omega) (by decide)).mp q)
      have s6 : mX6_hidden_s18 v (x, nI k) = some (.inr (x, nI (k + 1))) := by
        unfold mX6_hidden_s18
        dsimp only
        rw [if_neg (show ¬ (7 : Int32) ≤ nI k from nI_ge (b := 7) (by omega) (by decide)), hs, bs, if_neg hz2, i_s, Int32.or_zero]
      rw [lp_go s5, lp_go s6]
      exact ih (k + 1) _ (by omega)
theorem lm_hidden : LM_hidden Rel := by
  intro u k0 k1 v hR
  obtain ⟨u', L, K, P, q1, q2, q3⟩ := rel_faulty hR
  obtain ⟨hL, hB⟩ := q2.bk
  obtain ⟨v', r1, r2, r3⟩ := e_passes (f := 100) hL hB (Nat.le_refl _)
  have hq := q2.mf r2.mf
  have hd := q2.2.2.2.2.2.2.2
  unfold DayOk at hd
  obtain ⟨e4, f4⟩ := b4_n q2.1.2.1
  unfold mX5_hidden mX6_hidden
  rw [show (100 : Int32) = nI 100 from rfl, q1, r1, bs, bs]
  cases hr : day (tx (gR v 0)) L with
  | inl s => exact lm_n (u := u) (v := v) hq.rel q3 rfl rfl
  | inr D =>
    rw [hr] at r3 hd
    obtain ⟨hD, hM⟩ := r3
    have hA : Dar u' D := ⟨hd.2.1, hD.1, fun m hm => ⟨(hd.2.2.1 m hm).1, (hd.2.2.1 m hm).2.1⟩⟩
    obtain ⟨F, g1, g2⟩ := e_heatD (f := 100) hA (Nat.le_refl _) hD
    have hDR : DR (sR u' 7 F) D 100 := ⟨hd.2.1, hd.2.2.1, g2⟩
    obtain ⟨r, w1, w2⟩ := e_hidL hD (Nat.le_refl _) hM hDR 7 0 0 rfl
    obtain ⟨F2, y1, y2⟩ := e_heatD (u := sR u' 7 F) (f := nat (gR v 0 4)) hA f4 hD
    have w1' : lpF (mX5_hidden_s25 (sR u' 7 F)) (0, 0) = some r := w1
    have w2' : lpF (mX6_hidden_s18 v') (0, 0) = some r := w2
    have ez : mX5_at 4 (gR (sR u' 7 F) 2) 0 = some (gR u' 2 0) := e_atN (k := 0) (by decide) _ (by decide)
    have h0 : ((if (Sum.inr D : Nat ⊕ List (Nat × Nat)).isLeft = true then (1 : Int32) else 0) = 0) := rfl
    have h1 : ¬ ((if (Sum.inr D : Nat ⊕ List (Nat × Nat)).isLeft = true then (0 : Int32) else 1) = 0) := (by decide : ¬ (1 : Int32) = 0)
    dsimp only
    rw [if_pos h0, if_neg h1, g1, bs, w1', bs, ez, bs, e4, y1, bs, w2', bs, sR_sR]
    refine ⟨r, _, _, rfl, rfl, ?_, q3⟩
    obtain ⟨a1, a2, a3, a4, a5, a6, a7, a8⟩ := hq
    have hg : DG u' (sR u' 7 F2) := ⟨fun k hk => rfl, fun k hk => by rw [s_RR, if_neg (by omega)], rfl, rfl, rfl⟩
    refine ⟨L, K, P, DG_RK hg a1, a2, a3, a4, a5, ⟨Or.inr ⟨a7, ?_⟩, a6.2⟩⟩
    unfold DayOk
    rw [r2.mf.2 0 (by decide), hr]
    exact ⟨hd.1, hd.2.1, hd.2.2.1, y2⟩
