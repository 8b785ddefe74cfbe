/-! the class alone: what stands behind each call -/
def FX (u : KS) (x y : Nat) : Prop := (x < 1073741824 ^ 3 ∧ y < 1073741824 ^ 3) ∧ ∀ k, k < 3 → gA u 2 k = lN (lb x k) ∧ gA u 3 k = lN (lb y k)
def RC (u : KS) (b : Nat → Int32) (L K : Nat) (O : Nat → Option Nat) : Prop := RK u b L K 0 ∧ CA u b L K ∧ gR u 0 2 = 0 ∧ (∃ x y, FX u x y) ∧ gO u = O
theorem RC.row {u : KS} {b : Nat → Int32} {L K : Nat} {O : Nat → Option Nat} (h : RC u b L K O) (f : Nat → Int32) : RC (sR u 20 f) b L K O := h
theorem FX.row {u : KS} {x y : Nat} (h : FX u x y) (f : Nat → Int32) : FX (sR u 20 f) x y := h
theorem RC.b5 {u : KS} {b : Nat → Int32} {L K : Nat} {O : Nat → Option Nat} (h : RC u b L K O) {j : Nat} (hj : j < 2) : RC (b5 u j) b L K O := by
  obtain ⟨h1, h2, h3, h4, h5⟩ := h
  refine ⟨h1, h2, ?_, h4, h5⟩
  show upd (gR u 0) j (gR u 0 j + 1) 2 = 0
  rw [u_no _ _ _ (by omega)]
  exact h3
def RCD (u : KS) (b : Nat → Int32) (L K : Nat) (O : Nat → Option Nat) : Prop := RC u b L K O ∧ gI u 0 = 0 ∧ DayOk u (tx b) L (nat (b 4))
theorem rc_day {u : KS} {b : Nat → Int32} {L K : Nat} {O : Nat → Option Nat} (h : RC u b L K O) : ∃ u', mX5_readDay u = some u' ∧ RCD u' b L K O ∧ DG u u' := by
  obtain ⟨hK, hC, hr, ⟨x, y, hF⟩, hO⟩ := h
  obtain ⟨u', q1, q2, q3, q4, q5⟩ := e_readDay hK.1 hK.2.1 hC.1
  refine ⟨u', q1, ⟨⟨DG_RK q2 hK, ⟨Or.inr ⟨q3, q4⟩, ?_⟩, ?_, ⟨x, y, ?_⟩, ?_⟩, q3, q4⟩, q2⟩
  · rcases hC.2 with h9 | ⟨h9, h10, D, h11, h12⟩
    · exact Or.inl ((q2.1 1 (Or.inl ⟨by decide, by decide⟩)).trans h9)
    · have hu := q5 h10
      subst hu
      exact Or.inr ⟨h9, h10, D, h11, h12⟩
  · rw [q2.2.1 0 (by decide)]; exact hr
  · unfold FX
    rw [q2.2.2.2.1]
    exact hF
  · exact q2.2.2.2.2.trans hO
section QQ
variable {u : KS} {b : Nat → Int32} {L K : Nat} {O : Nat → Option Nat} {D : List (Nat × Nat)}
theorem rc_f (h : RC u b L K O) : nat (b 4) ≤ 100 := (b4_n h.1.2.1).2
theorem RCD.dr (h : RCD u b L K O) (hd : day (tx b) L = .inr D) : gI u 5 = -1 ∧ DR u D (nat (b 4)) := by
  have h1 := h.2.2
  unfold DayOk at h1
  rw [hd] at h1
  exact h1
theorem rc_fty (h : RC u b L K O) (hd : day (tx b) L = .inr D) : ∃ u', mX5_dayIsFaulty u = some (0, u') ∧ RCD u' b L K O ∧ DR u' D (nat (b 4)) := by
  obtain ⟨u', q1, q2, q3⟩ := rc_day h
  have hdr := q2.dr hd
  refine ⟨u', ?_, q2, hdr.2⟩
  unfold mX5_dayIsFaulty
  rw [q1, bs, if_pos hdr.1]
theorem s_faulty (h : RC u b L K O) (hd : day (tx b) L = .inr D) : ∃ u', mX5_faulty u = some (-1, u') ∧ RC u' b L K O := by
  obtain ⟨u', q1, q2, q3⟩ := rc_day h
  refine ⟨u', ?_, q2.1⟩
  unfold mX5_faulty
  rw [q1, bs, (q2.dr hd).1]
theorem s_minutes (h : RC u b L K O) (hd : day (tx b) L = .inr D) : ∃ u', mX5_minutes u = some (nI D.length, u') ∧ RC u' b L K O := by
  obtain ⟨u', q1, q2, q3⟩ := rc_fty h hd
  refine ⟨u', ?_, q2.1⟩
  unfold mX5_minutes
  rw [q1, bs]
  dsimp only
  rw [if_pos rfl, q3.1]
theorem s_warm (h : RC u b L K O) (hd : day (tx b) L = .inr D) {m : Nat} (hm : m ≤ D.length) : ∃ u', mX5_warm u (nI m) = some (nI (wm D (nat (b 4)) m), u') ∧ RC u' b L K O := by
  obtain ⟨u', q1, q2, q3⟩ := rc_fty h hd
  have hDl := (day_WD hd).1
  refine ⟨u', ?_, q2.1⟩
  unfold mX5_warm
  rw [q1, bs]
  dsimp only
  rw [if_pos rfl, q3.1, if_neg (nI_pos (by omega)), if_pos (nI_le hm (by omega)), e_atN (by decide) _ (by omega), q3.2.2 m hm, bs]
theorem fo_n {k d : Nat} (hd : 1 ≤ d) (hk : k < 7) (hd3 : d ≤ 3) : mX5_faultOf (nI k) (nI d) = some (nI (3 * k + (d - 1))) := by
  unfold mX5_faultOf
  rw [show (3 : Int32) = nI 3 from rfl, show (1 : Int32) = nI 1 from rfl, i_mul, i_add, i_sub (by omega) (by omega), show 3 * k + d - 1 = 3 * k + (d - 1) by omega]
theorem s_gives (h : RC u b L K O) (hd : day (tx b) L = .inr D) {k d m c : Nat} (hk : k < 7) (h1 : 1 ≤ d) (h3 : d ≤ 3) (hm : m < D.length) (hc : c < 4) : ∃ u', mX5_gives u (nI k) (nI d) (nI m) (nI c) = some (nI (gv D (nat (b 4)) (3 * k + (d - 1)) m c), u') ∧ RC u' b L K O := by
  obtain ⟨u', q1, q2, q3⟩ := rc_fty h hd
  have hW := day_WD hd
  have hDl := hW.1
  refine ⟨u', ?_, q2.1⟩
  have zk : (nI k).toInt = (k : Int) := z_nN (by omega)
  have zd : (nI d).toInt = (d : Int) := z_nN (by omega)
  have zm : (nI m).toInt = (m : Int) := z_nN (by omega)
  have zc : (nI c).toInt = (c : Int) := z_nN (by omega)
  unfold mX5_gives
  rw [q1, bs]
  dsimp only
  rw [if_pos rfl, e_isFault, bs, b_i2, e_has q3.1 hDl, bs, b_i2, e_isColor, bs, b_i2, if_pos (by omega), if_pos (by omega), if_pos (by omega), fo_n h1 hk h3, bs, e_given5 hW (rc_f h) q3 (by omega) hm hc, bs]
theorem s_smoke (h : RC u b L K O) (hd : day (tx b) L = .inr D) {m c : Nat} (hm : m < D.length) (hc : c < 4) {cut : Int32} (hcut : -1 ≤ cut.toInt ∧ cut.toInt ≤ 3) : ∃ u', mX5_smoke u (nI m) (nI c) cut = some (smk D (nat (b 4)) b m c cut, u') ∧ RC u' b L K O := by
  obtain ⟨u', q1, q2, q3⟩ := rc_fty h hd
  have hW := day_WD hd
  have hDl := hW.1
  refine ⟨u', ?_, q2.1⟩
  have zm : (nI m).toInt = (m : Int) := z_nN (by omega)
  have zc : (nI c).toInt = (c : Int) := z_nN (by omega)
  unfold mX5_smoke
  rw [q1, bs]
  dsimp only
  rw [if_pos rfl, e_has q3.1 hDl, bs, b_i2, e_isColor, bs, b_i2, e_isCut, bs, b_i2, if_pos (by omega), if_pos (by omega), if_pos hcut, e_smoke5 hW (rc_f h) q3 q2.1.1.2.2.2.1 hm hc, bs]
theorem s_goes (h : RC u b L K O) (hd : day (tx b) L = .inr D) {w : Nat} (hw : w < 2) : ∃ u', mX5_goes u (nI w) = some (fd (fun k x => x + smk D (nat (b 4)) b k w (-1)) D.length 0, u') ∧ RC u' b L K O := by
  obtain ⟨u', q1, q2, q3⟩ := rc_fty h hd
  have hW := day_WD hd
  have hDl := hW.1
  have zw : (nI w).toInt = (w : Int) := z_nN (by omega)
  have hf := rc_f h
  have hK := q2.1.1.2.2.2.1
  have e5 := lp_fd0 (S := mX5_goes_s30 u' (nI w)) (fun k (x : Int32) => (x, nI k)) (fun k x => x + smk D (nat (b 4)) b k w (-1)) id D.length 0
    (fun k x hk => by
      unfold mX5_goes_s30
      dsimp only
      rw [q3.1, if_neg (nI_ge hk (by omega)), i_s]
      rcases (show w = 0 ∨ w = 1 by omega) with q | q <;> subst q
      · rw [if_pos (show nI 0 = 0 from rfl), show (0 : Int32) = nI 0 from rfl, e_smoke5 hW hf q3 hK hk (by decide), bs]
      · rw [if_neg (show ¬ nI 1 = 0 by decide), show (1 : Int32) = nI 1 from rfl, e_smoke5 hW hf q3 hK hk (by decide), bs])
    (fun x => by
      unfold mX5_goes_s30
      dsimp only
      rw [q3.1, if_pos (Int32.le_refl _)]
      rfl)
  refine ⟨u', ?_, q2.1⟩
  unfold mX5_goes
  rw [if_neg (by (simp only [z_lt, z_le, z_gt, z_ge, z_eq, zm1, zm2, Int32.reduceToInt] at *; omega)), if_pos (by (simp only [z_lt, z_le, z_gt, z_ge, z_eq, zm1, zm2, Int32.reduceToInt] at *; omega)), q1, bs]
  dsimp only
  rw [if_pos rfl]
  exact (congrArg (fun o => Option.bind o fun e => some (e, u')) e5).trans rfl
theorem s_hidden (h : RC u b L K O) (hd : day (tx b) L = .inr D) : ∃ r u', mX5_hidden u = some (nI r, u') ∧ r < 128 ∧ RC u' b L K O := by
  obtain ⟨u', q1, q2, q3⟩ := rc_fty h hd
  have hW := day_WD hd
  have hDl := hW.1
  have hf := rc_f h
  have hA : Dar u' D := ⟨q3.1, hDl, fun m hm => ⟨(q3.2.1 m hm).1, (q3.2.1 m hm).2.1⟩⟩
  obtain ⟨F, g1, g2⟩ := e_heatD (f := 100) hA (Nat.le_refl _) hW
  have hDR : DR (sR u' 7 F) D 100 := ⟨q3.1, q3.2.1, g2⟩
  obtain ⟨F2, y1, y2⟩ := e_heatD (u := sR u' 7 F) (f := nat (b 4)) hA hf hW
  have key : ∀ n k x, k + n = 7 → x < 2 ^ k → ∃ r, r < 128 ∧ lpF (mX5_hidden_s25 (sR u' 7 F)) (nI x, nI k) = some (nI r) := by
    intro n
    induction n with
    | zero =>
      intro k x h0 hx
      have h0 : k = 7 := h0
      subst h0
      refine ⟨x, hx, lp_stop ?_⟩
      unfold mX5_hidden_s25
      dsimp only
      rw [if_pos (by decide)]
    | succ n ih =>
      intro k x h0 hx
      have ef : (3 * nI k + 3 - 1 : Int32) = nI (3 * k + 2) := by
        rw [show (3 : Int32) = nI 3 from rfl, show (1 : Int32) = nI 1 from rfl, i_mul, i_add, i_sub (by omega) (by omega)]
        rfl
      obtain ⟨g1, g2⟩ := e_gn (a := 3 * k + 2) hW (Nat.le_refl _) hDR (by omega)
      have hor : nI x ||| ((1 : Int32) <<< (nI k &&& 31)) = nI (x ||| 2 ^ k) := by
        have : ((1 : Int32) <<< (nI k &&& 31)) = nI (2 ^ k) := by
          rcases (show k = 0 ∨ k = 1 ∨ k = 2 ∨ k = 3 ∨ k = 4 ∨ k = 5 ∨ k = 6 by omega) with q | q | q | q | q | q | q <;> subst q <;> rfl
        rw [this, or_nI]
      by_cases c : ∀ m c, m < D.length → c < 4 → gv D 100 (3 * k + 2) m c = 0
      · have s5 : mX5_hidden_s25 (sR u' 7 F) (nI x, nI k) = some (.inr (nI (x ||| 2 ^ k), nI (k + 1))) := by
          unfold mX5_hidden_s25 mX5_faultOf
          dsimp only
          rw [if_neg (show ¬ (7 : Int32) ≤ nI k from nI_ge (b := 7) (by omega) (by decide)), bs, ef, g1 c, bs, if_neg (by decide), i_s, hor]
        rw [lp_go s5]
        exact ih (k + 1) _ (by omega) (Nat.or_lt_two_pow (Nat.lt_of_lt_of_le hx (Nat.pow_le_pow_right (by decide) (Nat.le_succ k))) (Nat.pow_lt_pow_right (by decide) (Nat.lt_succ_self k)))
      · have hex : ∃ m c, m < D.length ∧ c < 4 ∧ gv D 100 (3 * k + 2) m c ≠ 0 := by
          refine Classical.byContradiction fun q => c (fun m' c' q1 q2 => ?_)
          exact Classical.byContradiction fun r => q ⟨m', c', q1, q2, r⟩
        have s5 : mX5_hidden_s25 (sR u' 7 F) (nI x, nI k) = some (.inr (nI x, nI (k + 1))) := by
          unfold mX5_hidden_s25 mX5_faultOf
          dsimp only
          rw [if_neg (show ¬ (7 : Int32) ≤ nI k from nI_ge (b := 7) (by omega) (by decide)), bs, ef, g2 hex, bs, if_pos rfl, i_s]
        rw [lp_go s5]
        exact ih (k + 1) _ (by omega) (Nat.lt_of_lt_of_le hx (Nat.pow_le_pow_right (by decide) (Nat.le_succ k)))
  obtain ⟨r, hr, w1⟩ := key 7 0 0 rfl (by decide)
  have w1' : lpF (mX5_hidden_s25 (sR u' 7 F)) (0, 0) = some (nI r) := w1
  have ez : mX5_at 4 (gR (sR u' 7 F) 2) 0 = some (gR u' 2 0) := e_atN (k := 0) (by decide) _ (by decide)
  obtain ⟨e4, f4⟩ := b4_n q2.1.1.2.1
  have hg : DG u' (sR u' 7 F2) := ⟨fun k hk => rfl, fun k hk => by rw [s_RR, if_neg (by omega)], rfl, rfl, rfl⟩
  obtain ⟨⟨hK, hC, hr0, hFX, hO⟩, a7, a8⟩ := q2
  refine ⟨r, sR u' 7 F2, ?_, hr, ⟨DG_RK hg hK, ⟨Or.inr ⟨a7, ?_⟩, hC.2⟩, hr0, hFX, hO⟩⟩
  · unfold mX5_hidden
    rw [q1, bs]
    dsimp only
    rw [if_pos rfl, show (100 : Int32) = nI 100 from rfl, g1, bs, w1', bs, ez, bs, e4, y1, bs, sR_sR]
  · unfold DayOk
    rw [hd]
    have h5 : gI u' 5 = -1 := by
      unfold DayOk at a8
      rw [hd] at a8
      exact a8.1
    exact ⟨h5, q3.1, q3.2.1, y2⟩
end QQ
