/-! the class alone: where to look next -/
def IB (x : Int32) : Prop := ∃ c k : Nat, c < 4 ∧ k < 5 ∧ x = nI (10 * c + k)
section NX5
variable {u0 : KS} {D : List (Nat × Nat)} {f t m : Nat} {W : Nat → Nat}
theorem cuts5 {c : Nat} (hD : WD D) (hf : f ≤ 100) (hm : m < D.length) (hc : c < 4) (ht : t ≤ 40) (ht5 : gR u0 2 1 = nI t) (hW5 : ∀ g, g < 2731 → gA u0 0 g = lN (W g)) (hL5 : gL u0 0 = lN (sm W 2731)) (hs : sm W 2731 < 36028797018963968) : ∀ n k (u : KS) (x5 : Int32) (l5 : Int64), k + n = 5 → EF u0 u → gA u 0 = gA u0 0 → gL u 0 = gL u0 0 → (∀ a, a < 21 → gR u 11 a = nI (gv D f a m c)) → IB x5 → ∃ x l u', lpF (mX5_next_s63 (nI m) (nI c)) (x5, l5, nI k, u) = some (x, l, u') ∧ IB x ∧ EF u0 u' ∧ gA u' 0 = gA u0 0 ∧ gL u' 0 = gL u0 0 := by
  intro n
  induction n with
  | zero =>
    intro k u x5 l5 h0 h1 h2 h3 h4 h6
    have h0 : k = 5 := h0
    subst h0
    refine ⟨x5, l5, u, lp_stop ?_, h6, h1, h2, h3⟩
    unfold mX5_next_s63
    dsimp only
    rw [if_pos (by decide)]
  | succ n ih =>
    intro k u x5 l5 h0 h1 h2 h3 h4 h6
    have hk : k < 5 := by omega
    obtain ⟨G, g1, g2⟩ := e_addUp (u := u) (e := fun a => gv D f a m c) (cut := nI k) h4
    have hgl := e_gl (u := sR u 12 G) (W := W) (e := fun a => gv D f a m c) (t := t) (cut := (nI k).toInt) ht (fun a ha => by
      have := gv_le c (m := m) hD hf ha
      exact Nat.le_of_lt (Nat.lt_of_lt_of_le this (by decide))) hs (fun g hg => by
      show gA u 0 g = _
      rw [h2]; exact hW5 g hg) (by
      show gL u 0 = _
      rw [h3]; exact hL5) g2
    have t1 : mX5_at 4 (gR (sR u 12 G) 2) 1 = some (nI t) := by
      rw [← ht5, ← h1.2.1 2 (by decide)]
      exact e_atN (k := 1) (by decide) _ (by decide)
    have s5 : mX5_next_s63 (nI m) (nI c) (x5, l5, nI k, u) = if 0 ≤ lg_cmp (lN (gmx W (fun a => gv D f a m c) t (nI k).toInt)) l5 then some (.inr (x5, l5, nI (k + 1), sR u 12 G)) else some (.inr (10 * nI c + nI k, lN (gmx W (fun a => gv D f a m c) t (nI k).toInt), nI (k + 1), sR u 12 G)) := by
      unfold mX5_next_s63
      dsimp only
      rw [if_neg (show ¬ (4 : Int32) < nI k from nI_nlt (a := 4) (by omega) (by decide)), g1, bs, t1, bs, hgl, bs, i_s]
    by_cases d : 0 ≤ lg_cmp (lN (gmx W (fun a => gv D f a m c) t (nI k).toInt)) l5
    · rw [if_pos d] at s5
      rw [lp_go s5]
      exact ih (k + 1) _ x5 l5 (by omega) (h1.R (Or.inr rfl) _) h2 h3 h4 h6
    · rw [if_neg d] at s5
      rw [lp_go s5]
      refine ih (k + 1) _ _ _ (by omega) (h1.R (Or.inr rfl) _) h2 h3 h4 ⟨c, k, hc, hk, ?_⟩
      rw [show (10 : Int32) = nI 10 from rfl, i_mul, i_add]
theorem cols5 (hD : WD D) (hf : f ≤ 100) (hDR : DR u0 D f) (hm : m < D.length) (ht : t ≤ 40) (ht5 : gR u0 2 1 = nI t) (hW5 : ∀ g, g < 2731 → gA u0 0 g = lN (W g)) (hL5 : gL u0 0 = lN (sm W 2731)) (hs : sm W 2731 < 36028797018963968) : ∀ n c (u : KS) (x5 : Int32) (l5 : Int64), c + n = 4 → EF u0 u → gA u 0 = gA u0 0 → gL u 0 = gL u0 0 → IB x5 → ∃ x u', lpF (mX5_next_s37 (nI m)) (x5, l5, nI c, u) = some (x, u') ∧ IB x ∧ EF u0 u' ∧ gA u' 0 = gA u0 0 ∧ gL u' 0 = gL u0 0 := by
  intro n
  induction n with
  | zero =>
    intro c u x5 l5 h0 h1 h2 h3 h5
    have h0 : c = 4 := h0
    subst h0
    refine ⟨x5, u, lp_stop ?_, h5, h1, h2, h3⟩
    unfold mX5_next_s37
    dsimp only
    rw [if_pos (by decide)]
  | succ n ih =>
    intro c u x5 l5 h0 h1 h2 h3 h5
    have hc : c < 4 := by omega
    obtain ⟨F, f1, f2⟩ := e_bring (u := u) hD hf (h1.dr hDR) hm hc
    obtain ⟨x, l, u', y1, y3, y4, y5, y6⟩ := cuts5 (c := c) hD hf hm hc ht ht5 hW5 hL5 hs 5 0 (sR u 11 F) x5 l5 rfl (h1.R (Or.inl rfl) _) h2 h3 f2 h5
    have y1' : lpF (mX5_next_s63 (nI m) (nI c)) (x5, l5, 0, sR u 11 F) = some (x, l, u') := y1
    have s5 : mX5_next_s37 (nI m) (x5, l5, nI c, u) = some (.inr (x, l, nI (c + 1), u')) := by
      unfold mX5_next_s37
      dsimp only
      rw [if_neg (show ¬ (4 : Int32) ≤ nI c from nI_ge (b := 4) hc (by decide)), f1, bs, y1', bs, i_s]
    rw [lp_go s5]
    exact ih (c + 1) u' x l (by omega) y4 y5 y6 y3
end NX5
theorem s_next {u : KS} {b : Nat → Int32} {L K : Nat} {O : Nat → Option Nat} {D : List (Nat × Nat)} (h : RC u b L K O) (hd : day (tx b) L = .inr D) (hT : TT D b K ≠ 0) {m : Nat} (hm : m < D.length) : ∃ x u', mX5_next u (nI m) = some (x, u') ∧ IB x ∧ RC u' b L K O := by
  obtain ⟨u', q1, q2, q3, q4, q5⟩ := rc_ng h hd
  have hs := rc_T h D
  have hD := day_WD hd
  have hDl := hD.1
  obtain ⟨n5, n6, n7, m5, m6, m7⟩ := Ks_n q2.1.1.2.1
  have zm : (nI m).toInt = (m : Int) := z_nN (by omega)
  obtain ⟨x, u2, y1, y2, y3, y4, y5⟩ := cols5 (u0 := u') (W := BW D b K) (m := m) (t := nat (b 5)) hD (rc_f h) q3 hm n5.2.2 (m5.trans n5.1) q5.1 q5.2 hs 4 0 u' 0 9223372036854775807 rfl (EF.rf u') rfl rfl ⟨0, 0, by decide, by decide, rfl⟩
  have y1' : lpF (mX5_next_s37 (nI m)) (0, 9223372036854775807, 0, u') = some (x, u2) := y1
  refine ⟨x, u2, ?_, y2, rc_same q2.1 y3 y4 y5⟩
  unfold mX5_next
  rw [q1, bs]
  dsimp only
  rw [if_neg hT, if_pos rfl, e_has q3.1 hDl, bs, b_i2, if_pos (by omega), y1', bs]
