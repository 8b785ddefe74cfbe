/-! next -/
def lvP (e : Nat → Nat) (t : Nat) (cut : Int) (l : Nat) (g : Nat) : Bool := lev t (am e cut g) == l
def lvS (W e : Nat → Nat) (t : Nat) (cut : Int) (l n : Nat) : Nat := sel W (lvP e t cut l) n
theorem lv_all (W e : Nat → Nat) (t : Nat) (cut : Int) : ∀ n, lvS W e t cut 0 n + lvS W e t cut 1 n + lvS W e t cut 2 n = sm W n := by
  intro n
  induction n with
  | zero => rfl
  | succ n ih =>
    have h := lev_le t (am e cut n)
    have s0 : lvS W e t cut 0 (n + 1) = lvS W e t cut 0 n + (if lvP e t cut 0 n then W n else 0) := rfl
    have s1 : lvS W e t cut 1 (n + 1) = lvS W e t cut 1 n + (if lvP e t cut 1 n then W n else 0) := rfl
    have s2 : lvS W e t cut 2 (n + 1) = lvS W e t cut 2 n + (if lvP e t cut 2 n then W n else 0) := rfl
    have s3 : sm W (n + 1) = sm W n + W n := rfl
    have s4 : (if lvP e t cut 0 n then W n else 0) + (if lvP e t cut 1 n then W n else 0) + (if lvP e t cut 2 n then W n else 0) = W n := by
      unfold lvP
      rcases (show lev t (am e cut n) = 0 ∨ lev t (am e cut n) = 1 ∨ lev t (am e cut n) = 2 by omega) with q | q | q <;> rw [q] <;> simp
    omega
def gmx (W e : Nat → Nat) (t : Nat) (cut : Int) : Nat := max (max (lvS W e t cut 0 2731) (lvS W e t cut 1 2731)) (lvS W e t cut 2 2731)
theorem lN_ltI {a b : Nat} (ha : a < 9223372036854775808) (hb : b < 9223372036854775808) : (lN a < lN b) ↔ a < b := by
  rw [zl_lt, zl_nN ha, zl_nN hb]
  omega
theorem e_gl {u : KS} {W e : Nat → Nat} {t : Nat} {cut : Int} (ht : t ≤ 40) (he : ∀ a, a < 21 → e a ≤ 12000) (hs : sm W 2731 < 36028797018963968) (hA : ∀ g, g < 2731 → gA u 0 g = lN (W g)) (hL : gL u 0 = lN (sm W 2731)) (hR : ∀ g, g < 2731 → gR u 12 g = nI (am e cut g)) : mX2_greatestLevel u (nI t) = some (lN (gmx W e t cut)) := by
  have hall := lv_all W e t cut 2731
  have eq := lp_fd0 (S := mX2_greatestLevel_s8 u (nI t)) (fun k (y : Int64 × Int64) => (y.1, y.2, nI k)) (fun k y => ((if lvP e t cut 0 k then y.1 + lN (W k) else y.1), (if lvP e t cut 1 k then y.2 + lN (W k) else y.2))) (fun y => (y.1, y.2)) 2731 (0, 0)
    (fun k y hk => by
      have hle := am_le cut he hk
      have hlv := lev_le t (am e cut k)
      unfold mX2_greatestLevel_s8
      dsimp only
      rw [if_neg (show ¬ (2731 : Int32) ≤ nI k from nI_ge (b := 2731) hk (by decide)), e_atN (by decide) _ hk, bs, hR k hk, e_lev (by omega) (by omega), bs, i_s]
      simp only [gd_t (i_k hk (show 2731 < 2147483648 by decide)), show (nI k).toNatClampNeg = k from i_cl (by omega), hA k hk]
      unfold lvP
      rcases (show lev t (am e cut k) = 0 ∨ lev t (am e cut k) = 1 ∨ lev t (am e cut k) = 2 by omega) with q | q | q <;> rw [q] <;> rfl)
    (fun y => by
      unfold mX2_greatestLevel_s8
      dsimp only
      rw [if_pos (by decide)])
  have hfd : ∀ n, fd (fun k (y : Int64 × Int64) => ((if lvP e t cut 0 k then y.1 + lN (W k) else y.1), (if lvP e t cut 1 k then y.2 + lN (W k) else y.2))) n (0, 0) = (lN (lvS W e t cut 0 n), lN (lvS W e t cut 1 n)) := by
    intro n
    induction n with
    | zero => rfl
    | succ n ih =>
      rw [fd_s, ih]
      dsimp only
      have s0 : lvS W e t cut 0 (n + 1) = lvS W e t cut 0 n + (if lvP e t cut 0 n then W n else 0) := rfl
      have s1 : lvS W e t cut 1 (n + 1) = lvS W e t cut 1 n + (if lvP e t cut 1 n then W n else 0) := rfl
      rw [s0, s1]
      refine Prod.ext ?_ ?_
      · show (if lvP e t cut 0 n then lN (lvS W e t cut 0 n) + lN (W n) else lN (lvS W e t cut 0 n)) = _
        split
        · rw [lN_add]
        · rw [Nat.add_zero]
      · show (if lvP e t cut 1 n then lN (lvS W e t cut 1 n) + lN (W n) else lN (lvS W e t cut 1 n)) = _
        split
        · rw [lN_add]
        · rw [Nat.add_zero]
  rw [hfd] at eq
  have eq' : lpF (mX2_greatestLevel_s8 u (nI t)) (0, 0, 0) = some (lN (lvS W e t cut 0 2731), lN (lvS W e t cut 1 2731)) := eq
  unfold mX2_greatestLevel gmx
  rw [eq', bs, hL]
  dsimp only
  have h2 : lN (sm W 2731) - lN (lvS W e t cut 0 2731) - lN (lvS W e t cut 1 2731) = lN (lvS W e t cut 2 2731) := by
    rw [lN_sub (by omega), lN_sub (by omega)]
    congr 1
    omega
  rw [h2]
  generalize lvS W e t cut 0 2731 = a at *
  generalize lvS W e t cut 1 2731 = b at *
  generalize lvS W e t cut 2 2731 = c at *
  have h3 : (if lN b < lN a then lN a else lN b) = lN (max a b) := by
    by_cases d : b < a
    · rw [if_pos ((lN_ltI (by omega) (by omega)).mpr d)]
      congr 1
      omega
    · rw [if_neg (fun z => d ((lN_ltI (by omega) (by omega)).mp z))]
      congr 1
      omega
  rw [h3]
  by_cases d : c < max a b
  · rw [if_pos ((lN_ltI (by omega) (by omega)).mpr d)]
    congr 2
    omega
  · rw [if_neg (fun z => d ((lN_ltI (by omega) (by omega)).mp z))]
    congr 2
    omega
/-- what the model's counting of levels leaves -/
def GN (w w' : KS) : Prop := (∀ k, k < 6 ∨ 10 ≤ k → gI w' k = gI w k) ∧ gR w' = gR w ∧ gA w' 0 = gA w 0 ∧ gL w' 0 = gL w 0
theorem GN.rf (u : KS) : GN u u := ⟨fun _ _ => rfl, rfl, rfl, rfl⟩
theorem GN.tr {u v w : KS} (h : GN u v) (g : GN v w) : GN u w := ⟨fun k hk => (g.1 k hk).trans (h.1 k hk), g.2.1.trans h.2.1, g.2.2.1.trans h.2.2.1, g.2.2.2.trans h.2.2.2⟩
theorem GN.op {u v : KS} (h : GN u v) (g : Nat) : GN u (opS v g) := ⟨fun k hk => by
  unfold opS
  rw [s_II, if_neg (by omega), s_II, if_neg (by omega), s_II, if_neg (by omega), s_II, if_neg (by omega)]; exact h.1 k hk, h.2.1, h.2.2.1, h.2.2.2⟩
theorem GN.A {u v : KS} (h : GN u v) (f : Nat → Int64) : GN u (sA v 1 f) := ⟨h.1, h.2.1, h.2.2.1, h.2.2.2⟩
theorem cmp_ge2 {a b : Nat} (ha : a < 9223372036854775808) (hb : b < 9223372036854775808) : (0 ≤ lg_cmp (lN a) (lN b)) ↔ b ≤ a := by
  rw [← Int32.not_lt, z_cmplt, zl_lt, zl_nN ha, zl_nN hb]
  omega
/-- what both have found so far -/
def NX (b5 : Int32) (l5 : Int64) (b6 : Int32) (l6 : Int64) : Prop := (l5 = 9223372036854775807 ∧ b6 = -1) ∨ (b5 = b6 ∧ l5 = l6 ∧ b6 ≠ -1 ∧ ∃ x, l6 = lN x ∧ x < 4611686018427387904)
theorem e_nxt {b5 b6 nb : Int32} {l5 l6 : Int64} {y : Nat} (h : NX b5 l5 b6 l6) (hy : y < 4611686018427387904) (hb : nb ≠ -1) : ∃ b l, (∀ w : KS, ∀ k : Int32, (if 0 ≤ lg_cmp (lN y) l5 then some (Sum.inr (b5, l5, k, w)) else some (Sum.inr (nb, lN y, k, w))) = (some (Sum.inr (b, l, k, w)) : Option ((Int32 × Int64 × KS) ⊕ (Int32 × Int64 × Int32 × KS)))) ∧ (∀ w : KS, ∀ k : Int32, (if b6 = -1 then some (Sum.inr (nb, lN y, k, w)) else if 0 ≤ lg_cmp (lN y) l6 then some (Sum.inr (b6, l6, k, w)) else some (Sum.inr (nb, lN y, k, w))) = (some (Sum.inr (b, l, k, w)) : Option ((Int32 × Int64 × KS) ⊕ (Int32 × Int64 × Int32 × KS)))) ∧ NX b l b l := by
  rcases h with ⟨h1, h2⟩ | ⟨h1, h2, h3, x, h4, h5⟩
  · have c : ¬ 0 ≤ lg_cmp (lN y) l5 := by
      rw [h1, show (9223372036854775807 : Int64) = lN 9223372036854775807 from rfl, cmp_ge2 (by omega) (by decide)]
      omega
    exact ⟨nb, lN y, fun w k => if_neg c, fun w k => if_pos h2, Or.inr ⟨rfl, rfl, hb, y, rfl, hy⟩⟩
  · subst h1 h2
    by_cases c : 0 ≤ lg_cmp (lN y) l5
    · exact ⟨b5, l5, fun w k => if_pos c, fun w k => by rw [if_neg h3, if_pos c], Or.inr ⟨rfl, rfl, h3, x, h4, h5⟩⟩
    · exact ⟨nb, lN y, fun w k => if_neg c, fun w k => by rw [if_neg h3, if_neg c], Or.inr ⟨rfl, rfl, hb, y, rfl, hy⟩⟩
section NXT
variable {u0 w0 : KS} {W : Nat → Nat} {D : List (Nat × Nat)} {f m t : Nat}
end NXT
