/-! next -/
def lvP (e : Nat → Nat) (t : Nat) (cut : Int) (l : Nat) (g : Nat) : Bool := lev t (am e cut g) == l
def lvS (W e : Nat → Nat) (t : Nat) (cut : Int) (l n : Nat) : Nat := sel W (lvP e t cut l) n
theorem lv_all (W e : Nat → Nat) (t : Nat) (cut : Int) : ∀ n, lvS W e t cut 0 n + lvS W e t cut 1 n + lvS W e t cut 2 n = sm W n := by
  intro n
  induction n with
  | zero => rfl
  | succ n ih =>
    have h := lev_le t (am e cut n)
    have s0 : lvS W e t cut 0 (n + 1) = lvS W e t cut 0 n + (if lvP e t cut 0 n then W n else 0) := rfl
    have s1 : lvS W e t cut 1 (n + 1) = lvS W e t cut 1 n + (if lvP e t cut 1 n then W n else 0) := rfl
    have s2 : lvS W e t cut 2 (n + 1) = lvS W e t cut 2 n + (if lvP e t cut 2 n then W n else 0) := rfl
    have s3 : sm W (n + 1) = sm W n + W n := rfl
    have s4 : (if lvP e t cut 0 n then W n else 0) + (if lvP e t cut 1 n then W n else 0) + (if lvP e t cut 2 n then W n else 0) = W n := by
      unfold lvP
      rcases (show lev t (am e cut n) = 0 ∨ lev t (am e cut n) = 1 ∨ lev t (am e cut n) = 2 by omega) with q | q | q <;> rw [q] <;> simp
    omega
def gmx (W e : Nat → Nat) (t : Nat) (cut : Int) : Nat := max (max (lvS W e t cut 0 2731) (lvS W e t cut 1 2731)) (lvS W e t cut 2 2731)
theorem lN_ltI {a b : Nat} (ha : a < 9223372036854775808) (hb : b < 9223372036854775808) : (lN a < lN b) ↔ a < b := by
  rw [zl_lt, zl_nN ha, zl_nN hb]
  omega
theorem e_gl {u : KS} {W e : Nat → Nat} {t : Nat} {cut : Int} (ht : t ≤ 40) (he : ∀ a, a < 21 → e a ≤ 12000) (hs : sm W 2731 < 36028797018963968) (hA : ∀ g, g < 2731 → gA u 0 g = lN (W g)) (hL : gL u 0 = lN (sm W 2731)) (hR : ∀ g, g < 2731 → gR u 12 g = nI (am e cut g)) : mX2_greatestLevel u (nI t) = some (lN (gmx W e t cut)) := by
  have hall := lv_all W e t cut 2731
  have eq := lp_fd0 (S := mX2_greatestLevel_s8 u (nI t)) (fun k (y : Int64 × Int64) => (y.1, y.2, nI k)) (fun k y => ((if lvP e t cut 0 k then y.1 + lN (W k) else y.1), (if lvP e t cut 1 k then y.2 + lN (W k) else y.2))) (fun y => (y.1, y.2)) 2731 (0, 0)
    (fun k y hk => by
      have hle := am_le cut he hk
      have hlv := lev_le t (am e cut k)
      unfold mX2_greatestLevel_s8
      dsimp only
      rw [if_neg (show ¬ (2731 : Int32) ≤ nI k from nI_ge (b := 2731) hk (by decide)), e_atN (by decide) _ hk, bs, hR k hk, e_lev (by omega) (by omega), bs, i_s]
      simp only [gd_t (i_k hk (show 2731 < 2147483648 by decide)), show (nI k).toNatClampNeg = k from i_cl (by omega), hA k hk]
      unfold lvP
      rcases (show lev t (am e cut k) = 0 ∨ lev t (am e cut k) = 1 ∨ lev t (am e cut k) = 2 by omega) with q | q | q <;> rw [q] <;> rfl)
    (fun y => by
      unfold mX2_greatestLevel_s8
      dsimp only
      rw [if_pos (by decide)])
  have hfd : ∀ n, fd (fun k (y : Int64 × Int64) => ((if lvP e t cut 0 k then y.1 + lN (W k) else y.1), (if lvP e t cut 1 k then y.2 + lN (W k) else y.2))) n (0, 0) = (lN (lvS W e t cut 0 n), lN (lvS W e t cut 1 n)) := by
    intro n
    induction n with
    | zero => rfl
    | succ n ih =>
      rw [fd_s, ih]
      dsimp only
      have s0 : lvS W e t cut 0 (n + 1) = lvS W e t cut 0 n + (if lvP e t cut 0 n then W n else 0) := rfl
      have s1 : lvS W e t cut 1 (n + 1) = lvS W e t cut 1 n + (if lvP e t cut 1 n then W n else 0) := rfl
      rw [s0, s1]
      refine Prod.ext ?_ ?_
      · show (if lvP e t cut 0 n then lN (lvS W e t cut 0 n) + lN (W n) else lN (lvS W e t cut 0 n)) = _
        split
        · rw [lN_add]
        · rw [Nat.add_zero]
      · show (if lvP e t cut 1 n then lN (lvS W e t cut 1 n) + lN (W n) else lN (lvS W e t cut 1 n)) = _
        split
        · rw [lN_add]
        · rw [Nat.add_zero]
  rw [hfd] at eq
  have eq' : lpF (mX2_greatestLevel_s8 u (nI t)) (0, 0, 0) = some (lN (lvS W e t cut 0 2731), lN (lvS W e t cut 1 2731)) := eq
  unfold mX2_greatestLevel gmx
  rw [eq', bs, hL]
  dsimp only
  have h2 : lN (sm W 2731) - lN (lvS W e t cut 0 2731) - lN (lvS W e t cut 1 2731) = lN (lvS W e t cut 2 2731) := by
    rw [lN_sub (by omega), lN_sub (by omega)]
    congr 1
    omega
  rw [h2]
  generalize lvS W e t cut 0 2731 = a at *
  generalize lvS W e t cut 1 2731 = b at *
  generalize lvS W e t cut 2 2731 = c at *
  have h3 : (if lN b < lN a then lN a else lN b) = lN (max a b) := by
    by_cases d : b < a
    · rw [if_pos ((lN_ltI (by omega) (by omega)).mpr d)]
      congr 1
      omega
    · rw [if_neg (fun z => d ((lN_ltI (by omega) (by omega)).mp z))]
      congr 1
      omega
  rw [h3]
  by_cases d : c < max a b
  · rw [if_pos ((lN_ltI (by omega) (by omega)).mpr d)]
    congr 2
    omega
  · rw [if_neg (fun z => d ((lN_ltI (by omega) (by omega)).mp z))]
    congr 2
    omega
/-- what the model's counting of levels leaves -/
def GN (w w' : KS) : Prop := (∀ k, k < 6 ∨ 10 ≤ k → gI w' k = gI w k) ∧ gR w' = gR w ∧ gA w' 0 = gA w 0 ∧ gL w' 0 = gL w 0
theorem GN.rf (u : KS) : GN u u := ⟨fun _ _ => rfl, rfl, rfl, rfl⟩
theorem GN.tr {u v w : KS} (h : GN u v) (g : GN v w) : GN u w := ⟨fun k hk => (g.1 k hk).trans (h.1 k hk), g.2.1.trans h.2.1, g.2.2.1.trans h.2.2.1, g.2.2.2.trans h.2.2.2⟩
theorem GN.op {u v : KS} (h : GN u v) (g : Nat) : GN u (opS v g) := ⟨fun k hk => by
  unfold opS
  rw [s_II, if_neg (by omega), s_II, if_neg (by omega), s_II, if_neg (by omega), s_II, if_neg (by omega)]; exact h.1 k hk, h.2.1, h.2.2.1, h.2.2.2⟩
theorem GN.A {u v : KS} (h : GN u v) (f : Nat → Int64) : GN u (sA v 1 f) := ⟨h.1, h.2.1, h.2.2.1, h.2.2.2⟩
theorem GN.mf {v v' : KS} (h : GN v v') : MF v v' := ⟨h.1 0 (by decide), fun k _ => by rw [h.2.1]⟩
theorem GN.mp {v v' : KS} {D : List (Nat × Nat)} {f : Nat} (h : GN v v') (g : MP v D f) : MP v' D f := by
  unfold MP MD
  rw [h.1 5 (by decide), h.2.1]
  exact g
theorem e_n73 {w0 : KS} {W : Nat → Nat} {D : List (Nat × Nat)} {f m c t : Nat} {x2 x6 : Int32} {x3 : Int64} (hD : WD D) (hf : f ≤ 100) (hM : MP w0 D f) (hm : m < D.length) (hc : c < 4) (ht : gR w0 0 5 = nI t ∧ t ≤ 40) (hW : ∀ g, g < 2731 → gA w0 0 g = lN (W g)) : ∀ n k (w : KS), k + n = 2731 → GN w0 w → (∀ l, l < 3 → gA w 1 l = lN (lvS W (fun a => gv D f a m c) t x6.toInt l k)) → ∃ w', lpF (mX6_next_s73 (nI m) x2 x3 (nI c) x6) (nI k, w) = some w' ∧ GN w0 w' ∧ ∀ l, l < 3 → gA w' 1 l = lN (lvS W (fun a => gv D f a m c) t x6.toInt l 2731) := by
  intro n
  induction n with
  | zero =>
    intro k w h0 hF hl
    have h0 : k = 2731 := h0
    subst h0
    refine ⟨w, lp_stop ?_, hF, hl⟩
    unfold mX6_next_s73
    dsimp only
    rw [if_pos (by decide)]
  | succ n ih =>
    intro k w h0 hF hl
    have hk : k < 2731 := by omega
    have el := e_lev6 (w := w) (g := k) (thin := t) hD hf (hF.mp hM) hm hc hk (by rw [hF.2.1]; exact ht) x6
    have hlv := lev_le t (am (fun a => gv D f a m c) x6.toInt k)
    obtain ⟨l0, hl0⟩ : ∃ l0, lev t (am (fun a => gv D f a m c) x6.toInt k) = l0 := ⟨_, rfl⟩
    rw [hl0] at el hlv
    have st : mX6_next_s73 (nI m) x2 x3 (nI c) x6 (nI k, w) = some (.inr (nI (k + 1), sA (opS w k) 1 (vp_updL (gA w 1) l0 (gA w 1 l0 + lN (W k))))) := by
      unfold mX6_next_s73
      dsimp only
      rw [if_neg (show ¬ (2731 : Int32) ≤ nI k from nI_ge (b := 2731) hk (by decide)), e_opens hk, bs, el, bs, gd_t (i_k (show l0 < 3 by omega) (by decide)), gd_t (i_k hk (by decide)), gd_t (i_k (show l0 < 3 by omega) (by decide)), show (nI l0).toNatClampNeg = l0 from i_cl (by omega), show (nI k).toNatClampNeg = k from i_cl (by omega), show gA (opS w k) 0 = gA w 0 from rfl, show gA (opS w k) 1 = gA w 1 from rfl, hF.2.2.1, hW k hk, i_s]
    rw [lp_go st]
    refine ih (k + 1) _ (by omega) ((hF.op k).A _) (fun l hl3 => ?_)
    show vp_updL (gA w 1) l0 (gA w 1 l0 + lN (W k)) l = lN (lvS W (fun a => gv D f a m c) t x6.toInt l k + (if lvP (fun a => gv D f a m c) t x6.toInt l k then W k else 0))
    unfold lvP
    rw [hl0]
    by_cases d : l = l0
    · subst d
      rw [ul_is, hl l hl3, lN_add, if_pos (by exact beq_self_eq_true l)]
    · rw [ul_no _ _ _ d, hl l hl3, if_neg (fun z => d (beq_iff_eq.mp z).symm), Nat.add_zero]
theorem e_n50 {w : KS} {c1 c2 c5 c6 : Int32} {c3 : Int64} : ∃ w', lpF (mX6_next_s50 c1 c2 c3 c5 c6) (0, w) = some w' ∧ GN w w' ∧ ∀ l, l < 3 → gA w' 1 l = lN 0 := by
  have e := lp_fd0 (S := mX6_next_s50 c1 c2 c3 c5 c6) (fun k (y : Nat → Int64) => (nI k, sA w 1 y)) (fun k y => vp_updL y (0 + k) (lN 0)) (fun y => sA w 1 y) 3 (gA w 1)
    (fun k y hk => by
      unfold mX6_next_s50
      dsimp only
      rw [if_neg (show ¬ (3 : Int32) ≤ nI k from nI_ge (b := 3) hk (by decide)), gd_t (i_k hk (by decide)), i_cl (by omega), i_s, sA_sA, Nat.zero_add]
      rfl)
    (fun y => by
      unfold mX6_next_s50
      dsimp only
      rw [if_pos (by decide)])
  rw [sA_self] at e
  refine ⟨_, e, (GN.rf w).A _, fun l hl => ?_⟩
  show fd (fun k y => vp_updL y (0 + k) (lN 0)) 3 (gA w 1) l = _
  rw [fd_upL 0 (fun _ => lN 0), if_pos (by omega)]
theorem cmp_ge2 {a b : Nat} (ha : a < 9223372036854775808) (hb : b < 9223372036854775808) : (0 ≤ lg_cmp (lN a) (lN b)) ↔ b ≤ a := by
  rw [← Int32.not_lt, z_cmplt, zl_lt, zl_nN ha, zl_nN hb]
  omega
/-- what both have found so far -/
def NX (b5 : Int32) (l5 : Int64) (b6 : Int32) (l6 : Int64) : Prop := (l5 = 9223372036854775807 ∧ b6 = -1) ∨ (b5 = b6 ∧ l5 = l6 ∧ b6 ≠ -1 ∧ ∃ x, l6 = lN x ∧ x < 4611686018427387904)
theorem e_nxt {b5 b6 nb : Int32} {l5 l6 : Int64} {y : Nat} (h : NX b5 l5 b6 l6) (hy : y < 4611686018427387904) (hb : nb ≠ -1) : ∃ b l, (∀ w : KS, ∀ k : Int32, (if 0 ≤ lg_cmp (lN y) l5 then some (Sum.inr (b5, l5, k, w)) else some (Sum.inr (nb, lN y, k, w))) = (some (Sum.inr (b, l, k, w)) : Option ((Int32 × Int64 × KS) ⊕ (Int32 × Int64 × Int32 × KS)))) ∧ (∀ w : KS, ∀ k : Int32, (if b6 = -1 then some (Sum.inr (nb, lN y, k, w)) else if 0 ≤ lg_cmp (lN y) l6 then some (Sum.inr (b6, l6, k, w)) else some (Sum.inr (nb, lN y, k, w))) = (some (Sum.inr (b, l, k, w)) : Option ((Int32 × Int64 × KS) ⊕ (Int32 × Int64 × Int32 × KS)))) ∧ NX b l b l := by
  rcases h with ⟨h1, h2⟩ | ⟨h1, h2, h3, x, h4, h5⟩
  · have c : ¬ 0 ≤ lg_cmp (lN y) l5 := by
      rw [h1, show (9223372036854775807 : Int64) = lN 9223372036854775807 from rfl, cmp_ge2 (by omega) (by decide)]
      omega
    exact ⟨nb, lN y, fun w k => if_neg c, fun w k => if_pos h2, Or.inr ⟨rfl, rfl, hb, y, rfl, hy⟩⟩
  · subst h1 h2
    by_cases c : 0 ≤ lg_cmp (lN y) l5
    · exact ⟨b5, l5, fun w k => if_pos c, fun w k => by rw [if_neg h3, if_pos c], Or.inr ⟨rfl, rfl, h3, x, h4, h5⟩⟩
    · exact ⟨nb, lN y, fun w k => if_neg c, fun w k => by rw [if_neg h3, if_neg c], Or.inr ⟨rfl, rfl, hb, y, rfl, hy⟩⟩
theorem e_n41 {w : KS} {c1 c5 : Int32} {a b c : Nat} {s1 : Int32} {s2 : Int64} {s3 : Int32} {w0 e50 : KS} (h50 : lpF (mX6_next_s50 c1 s1 s2 c5 s3) (0, w0) = some e50) (h73 : lpF (mX6_next_s73 c1 s1 s2 c5 s3) (0, e50) = some w) (h5 : ¬ (5 : Int32) ≤ s3) (ha : gA w 1 0 = lN a) (hb : gA w 1 1 = lN b) (hc : gA w 1 2 = lN c) (h : a < 4611686018427387904 ∧ b < 4611686018427387904 ∧ c < 4611686018427387904) : mX6_next_s41 c1 c5 (s1, s2, s3, w0) = if s1 = -1 then some (Sum.inr (10 * c5 + s3, lN (max (max a b) c), s3 + 1, w)) else if 0 ≤ lg_cmp (lN (max (max a b) c)) s2 then some (Sum.inr (s1, s2, s3 + 1, w)) else some (Sum.inr (10 * c5 + s3, lN (max (max a b) c), s3 + 1, w)) := by
  unfold mX6_next_s41
  dsimp only
  rw [if_neg h5, h50, bs, h73, bs, c_0, c_1, c_2, ha, hb, hc]
  have e1 := cmp_le (a := a) (b := b) (by omega) (by omega)
  by_cases d1 : a ≤ b
  · rw [if_pos (e1.mpr d1)]
    have e2 := cmp_le (a := c) (b := b) (by omega) (by omega)
    by_cases d2 : c ≤ b
    · rw [if_pos (e2.mpr d2), show max (max a b) c = b by omega]
    · rw [if_neg (fun z => d2 (e2.mp z)), show max (max a b) c = c by omega]
  · rw [if_neg (fun z => d1 (e1.mp z))]
    have e2 := cmp_le (a := c) (b := a) (by omega) (by omega)
    by_cases d2 : c ≤ a
    · rw [if_pos (e2.mpr d2), show max (max a b) c = a by omega]
    · rw [if_neg (fun z => d2 (e2.mp z)), show max (max a b) c = c by omega]
section NXT
variable {u0 w0 : KS} {W : Nat → Nat} {D : List (Nat × Nat)} {f m t : Nat}
theorem e_cuts {c : Nat} (hD : WD D) (hf : f ≤ 100) (hM : MP w0 D f) (hm : m < D.length) (hc : c < 4) (ht : gR w0 0 5 = nI t ∧ t ≤ 40) (ht5 : gR u0 2 1 = nI t) (hW : ∀ g, g < 2731 → gA w0 0 g = lN (W g)) (hW5 : ∀ g, g < 2731 → gA u0 0 g = lN (W g)) (hL5 : gL u0 0 = lN (sm W 2731)) (hs : sm W 2731 < 36028797018963968) : ∀ n k (u w : KS) (b5 : Int32) (l5 : Int64) (b6 : Int32) (l6 : Int64), k + n = 5 → EF u0 u → gA u 0 = gA u0 0 → gL u 0 = gL u0 0 → (∀ a, a < 21 → gR u 11 a = nI (gv D f a m c)) → GN w0 w → NX b5 l5 b6 l6 → ∃ b l b' l' u' w', lpF (mX5_next_s63 (nI m) (nI c)) (b5, l5, nI k, u) = some (b, l, u') ∧ lpF (mX6_next_s41 (nI m) (nI c)) (b6, l6, nI k, w) = some (b', l', w') ∧ NX b l b' l' ∧ EF u0 u' ∧ gA u' 0 = gA u0 0 ∧ gL u' 0 = gL u0 0 ∧ GN w0 w' ∧ (k < 5 → b = b') := by
  intro n
  induction n with
  | zero =>
    intro k u w b5 l5 b6 l6 h0 h1 h2 h3 h4 h5 h6
    have h0 : k = 5 := h0
    subst h0
    refine ⟨b5, l5, b6, l6, u, w, lp_stop ?_, lp_stop ?_, h6, h1, h2, h3, h5, fun z => absurd z (by decide)⟩
    · unfold mX5_next_s63
      dsimp only
      rw [if_pos (by decide)]
    · unfold mX6_next_s41
      dsimp only
      rw [if_pos (by decide)]
  | succ n ih =>
    intro k u w b5 l5 b6 l6 h0 h1 h2 h3 h4 h5 h6
    have hk : k < 5 := by omega
    obtain ⟨G, g1, g2⟩ := e_addUp (u := u) (e := fun a => gv D f a m c) (cut := nI k) h4
    have hgl := e_gl (u := sR u 12 G) (W := W) (e := fun a => gv D f a m c) (t := t) (cut := (nI k).toInt) ht.2 (fun a ha => by
      have := gv_le c (m := m) hD hf ha
      exact Nat.le_of_lt (Nat.lt_of_lt_of_le this (by decide))) hs (fun g hg => by
      show gA u 0 g = _
      rw [h2]; exact hW5 g hg) (by
      show gL u 0 = _
      rw [h3]; exact hL5) g2
    obtain ⟨w1, p1, p2, p3⟩ := e_n50 (w := w) (c1 := nI m) (c2 := b6) (c5 := nI c) (c6 := nI k) (c3 := l6)
    obtain ⟨w2, r1, r2, r3⟩ := e_n73 (W := W) (x2 := b6) (x6 := nI k) (x3 := l6) hD hf hM hm hc ht hW 2731 0 w1 rfl (h5.tr p2) p3
    have hall := lv_all W (fun a => gv D f a m c) t (nI k).toInt 2731
    have s6 := e_n41 (s1 := b6) (s2 := l6) (s3 := nI k) p1 r1 (show ¬ (5 : Int32) ≤ nI k from nI_ge (b := 5) hk (by decide)) (r3 0 (by decide)) (r3 1 (by decide)) (r3 2 (by decide)) (by omega)
    have hnb : (10 * nI c + nI k : Int32) ≠ -1 := by
      rw [show (10 : Int32) = nI 10 from rfl, i_mul, i_add]
      exact nI_nm1 (by omega)
    have hgm : gmx W (fun a => gv D f a m c) t (nI k).toInt < 4611686018427387904 := by unfold gmx; omega
    obtain ⟨b, l, x5, x6, x7⟩ := e_nxt (y := gmx W (fun a => gv D f a m c) t (nI k).toInt) (nb := 10 * nI c + nI k) h6 hgm hnb
    have t1 : mX5_at 4 (gR (sR u 12 G) 2) 1 = some (nI t) := by
      rw [← ht5, ← h1.2.1 2 (by decide)]
      exact e_atN (k := 1) (by decide) _ (by decide)
    have s5 : mX5_next_s63 (nI m) (nI c) (b5, l5, nI k, u) = some (.inr (b, l, nI (k + 1), sR u 12 G)) := by
      unfold mX5_next_s63
      dsimp only
      rw [if_neg (show ¬ (4 : Int32) < nI k from nI_nlt (a := 4) (by omega) (by decide)), g1, bs, t1, bs, hgl, bs, i_s]
      exact x5 _ _
    have s6' : mX6_next_s41 (nI m) (nI c) (b6, l6, nI k, w) = some (.inr (b, l, nI (k + 1), w2)) := by
      rw [s6, i_s]
      exact x6 _ _
    obtain ⟨b', l', b'', l'', u', w', y1, y2, y3, y4, y5, y6, y7, y8⟩ := ih (k + 1) (sR u 12 G) w2 b l b l (by omega) (h1.R (Or.inr rfl) _) h2 h3 h4 r2 x7
    refine ⟨b', l', b'', l'', u', w', by rw [lp_go s5]; exact y1, by rw [lp_go s6']; exact y2, y3, y4, y5, y6, y7, fun _ => ?_⟩
    by_cases d : k + 1 < 5
    · exact y8 d
    · have hk5 : k + 1 = 5 := by omega
      rw [hk5] at y1 y2
      have e5 : mX5_next_s63 (nI m) (nI c) (b, l, nI 5, sR u 12 G) = some (.inl (b, l, sR u 12 G)) := by
        unfold mX5_next_s63
        dsimp only
        rw [if_pos (by decide)]
      have e6 : mX6_next_s41 (nI m) (nI c) (b, l, nI 5, w2) = some (.inl (b, l, w2)) := by
        unfold mX6_next_s41
        dsimp only
        rw [if_pos (by decide)]
      rw [lp_stop e5] at y1
      rw [lp_stop e6] at y2
      cases y1
      cases y2
      rfl
theorem e_cols (hD : WD D) (hf : f ≤ 100) (hDR : DR u0 D f) (hM : MP w0 D f) (hm : m < D.length) (ht : gR w0 0 5 = nI t ∧ t ≤ 40) (ht5 : gR u0 2 1 = nI t) (hW : ∀ g, g < 2731 → gA w0 0 g = lN (W g)) (hW5 : ∀ g, g < 2731 → gA u0 0 g = lN (W g)) (hL5 : gL u0 0 = lN (sm W 2731)) (hs : sm W 2731 < 36028797018963968) : ∀ n c (u w : KS) (b5 : Int32) (l5 : Int64) (b6 : Int32) (l6 : Int64), c + n = 4 → EF u0 u → gA u 0 = gA u0 0 → gL u 0 = gL u0 0 → GN w0 w → NX b5 l5 b6 l6 → (c = 4 → b5 = b6) → ∃ b u' w', lpF (mX5_next_s37 (nI m)) (b5, l5, nI c, u) = some (b, u') ∧ lpF (mX6_next_s32 (nI m)) (b6, l6, nI c, w) = some (b, w') ∧ EF u0 u' ∧ gA u' 0 = gA u0 0 ∧ gL u' 0 = gL u0 0 ∧ GN w0 w' := by
  intro n
  induction n with
  | zero =>
    intro c u w b5 l5 b6 l6 h0 h1 h2 h3 h4 h5 h6
    have h0 : c = 4 := h0
    subst h0
    have hb := h6 rfl
    subst hb
    refine ⟨b5, u, w, lp_stop ?_, lp_stop ?_, h1, h2, h3, h4⟩
    · unfold mX5_next_s37
      dsimp only
      rw [if_pos (by decide)]
    · unfold mX6_next_s32
      dsimp only
      rw [if_pos (by decide)]
  | succ n ih =>
    intro c u w b5 l5 b6 l6 h0 h1 h2 h3 h4 h5 h6
    have hc : c < 4 := by omega
    obtain ⟨F, f1, f2⟩ := e_bring (u := u) hD hf (h1.dr hDR) hm hc
    obtain ⟨b, l, b', l', u', w', y1, y2, y3, y4, y5, y6, y7, y8⟩ := e_cuts (c := c) hD hf hM hm hc ht ht5 hW hW5 hL5 hs 5 0 (sR u 11 F) w b5 l5 b6 l6 rfl (h1.R (Or.inl rfl) _) h2 h3 f2 h4 h5
    have y1' : lpF (mX5_next_s63 (nI m) (nI c)) (b5, l5, 0, sR u 11 F) = some (b, l, u') := y1
    have y2' : lpF (mX6_next_s41 (nI m) (nI c)) (b6, l6, 0, w) = some (b', l', w') := y2
    have s5 : mX5_next_s37 (nI m) (b5, l5, nI c, u) = some (.inr (b, l, nI (c + 1), u')) := by
      unfold mX5_next_s37
      dsimp only
      rw [if_neg (show ¬ (4 : Int32) ≤ nI c from nI_ge (b := 4) hc (by decide)), f1, bs, y1', bs, i_s]
    have s6 : mX6_next_s32 (nI m) (b6, l6, nI c, w) = some (.inr (b', l', nI (c + 1), w')) := by
      unfold mX6_next_s32
      dsimp only
      rw [if_neg (show ¬ (4 : Int32) ≤ nI c from nI_ge (b := 4) hc (by decide)), y2', bs, i_s]
    obtain ⟨b2, u2, w2, z1, z2, z3, z4, z5, z6⟩ := ih (c + 1) u' w' b l b' l' (by omega) y4 y5 y6 y7 y3 (fun _ => y8 (by decide))
    exact ⟨b2, u2, w2, by rw [lp_go s5]; exact z1, by rw [lp_go s6]; exact z2, z3, z4, z5, z6⟩
end NXT
theorem lm_next : LM_next Rel := by
  intro u k0 k1 v a1 hR
  unfold mX5_next mX6_next
  obtain ⟨u', v', L, K, P, h1, h2, h3⟩ := rel_gs hR
  rcases h3 with ⟨p1, p2⟩ | ⟨D, p1, p2, hD, hf, hMP, hDR, hi1, hday, hA, hL, hMG, hs0, hs1⟩
  · rw [p1, p2, bs, bs]
    exact lm_n (u := u) (v := v) h1.rel h2 rfl rfl
  · rw [p1, p2, bs, bs]
    have hDl := hD.1
    obtain ⟨n5, n6, n7, m5, m6, m7⟩ := Ks_n h1.1.2.1
    dsimp only
    rw [if_pos (show (0 : Int32) = 0 from rfl), if_neg (show ¬ (1 : Int32) = 0 by decide), e_has hDR.1 hDl, bs, b_i2, e_isMin hMP.1.1 hDl, bs, b_i2]
    by_cases c : 0 ≤ a1.toInt ∧ a1.toInt < (D.length : Int)
    · obtain ⟨m, hm, rfl⟩ := n_ex (a := a1) (n := 119) ⟨c.1, by omega⟩
      have zm : (nI m).toInt = (m : Int) := z_nN (by omega)
      obtain ⟨b, u2, w2, y1, y2, y3, y4, y5, y6⟩ := e_cols (u0 := u') (w0 := v') (W := BW D (gR v' 0) K) (m := m) (t := nat (gR v' 0 5)) hD hf hDR hMP (by omega) ⟨n5.1, n5.2.2⟩ (m5.trans n5.1) hMG.1 hA hL hs1 4 0 u' v' 0 9223372036854775807 (-1) 0 rfl (EF.rf u') rfl rfl (GN.rf v') (Or.inl ⟨rfl, rfl⟩) (fun z => absurd z (by decide))
      have y1' : lpF (mX5_next_s37 (nI m)) (0, 9223372036854775807, 0, u') = some (b, u2) := y1
      have y2' : lpF (mX6_next_s32 (nI m)) (-1, 0, 0, v') = some (b, w2) := y2
      rw [if_pos c, if_pos c, y1', bs, y2', bs]
      exact ⟨b, u2, w2, rfl, rfl, ((RelD_same h1 y3 y4 y5).mf y6.mf).rel, y3.2.2.2.2.trans h2⟩
    · rw [if_neg c, if_neg c]
      exact lm_bd (u := u) (v := v) h1.rel h2 rfl rfl
