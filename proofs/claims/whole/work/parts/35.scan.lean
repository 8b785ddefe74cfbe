/-! the model scans -/
def MF (v v' : KS) : Prop := gI v' 0 = gI v 0 ∧ ∀ k, k < 6 → gR v' k = gR v k
theorem MF.rf (v : KS) : MF v v := ⟨rfl, fun _ _ => rfl⟩
theorem MF.tr {u v w : KS} (h : MF u v) (g : MF v w) : MF u w := ⟨g.1.trans h.1, fun k hk => (g.2 k hk).trans (h.2 k hk)⟩
def SC (v v' : KS) : Prop := v'.2 = v.2 ∧ ∀ k, k = 0 ∨ 5 ≤ k → gI v' k = gI v k
theorem SC.rf (v : KS) : SC v v := ⟨rfl, fun _ _ => rfl⟩
theorem SC.tr {u v w : KS} (h : SC u v) (g : SC v w) : SC u w := ⟨g.1.trans h.1, fun k hk => (g.2 k hk).trans (h.2 k hk)⟩
theorem SC.I {u v : KS} (h : SC u v) {k : Nat} (hk : 1 ≤ k ∧ k < 5) (x : Int32) : SC u (sI v k x) := ⟨h.1, fun j hj => by rw [s_II, if_neg (by omega)]; exact h.2 j hj⟩
theorem SC.R {u v : KS} (h : SC u v) : gR v = gR u := by
  show (fun k => v.2.1 k) = fun k => u.2.1 k
  rw [h.1]
theorem SC.MF {u v : KS} (h : SC u v) : MF u v := ⟨h.2 0 (Or.inl rfl), fun k _ => by rw [h.R]⟩
def Bk (v : KS) (t : Nat → Int32) (L : Nat) : Prop := gR v 0 0 = nI L ∧ ∀ i, i < L → gR v 0 (80 + i) = t i
theorem Bk.mf {v v' : KS} {t : Nat → Int32} {L : Nat} (h : Bk v t L) (g : MF v v') : Bk v' t L := by
  unfold Bk
  rw [g.2 0 (by decide)]
  exact h
section SCN
variable {t : Nat → Int32} {L : Nat}
theorem e_isAt {v : KS} {p : Nat} (hL : L ≤ 120) (hB : Bk v t L) (h1 : gI v 1 = nI p) (hp : p ≤ L) (lo hi : Int32) : mX6_isAt v lo hi = some (if p < L ∧ lo.toInt ≤ (t p).toInt ∧ (t p).toInt ≤ hi.toInt then 1 else 0) := by
  unfold mX6_isAt
  rw [c_0, hB.1, h1]
  by_cases c : p < L
  · have e1 : (80 : Int32) + nI p = nI (80 + p) := i_add 80 p
    rw [if_neg (nI_ge c (by omega)), e1, gd_t (i_k (by omega) (by decide)), i_cl (by omega), hB.2 p c, e_in, bs, z_i2l, z_i2l, z_i2l, b_i2]
    by_cases c2 : lo.toInt ≤ (t p).toInt ∧ (t p).toInt ≤ hi.toInt
    · rw [if_pos c2, if_pos ⟨c, c2⟩]
    · rw [if_neg c2, if_neg (fun q => c2 q.2)]
  · rw [if_pos (nI_le (by omega) (by omega)), if_neg (fun q => c q.1)]
theorem e_skip6 {v : KS} (hL : L ≤ 120) (hB : Bk v t L) : ∀ (m p : Nat), p ≤ L → L - p ≤ m → lpF mX6_scans_s0 (sI v 1 (nI p)) = some (sI v 1 (nI (skp t L m p))) := by
  intro m
  induction m with
  | zero =>
    intro p hp hm
    refine lp_stop ?_
    unfold mX6_scans_s0
    rw [e_isAt (v := sI v 1 (nI p)) hL hB rfl hp, bs, b_i2, if_neg (by omega)]
    rfl
  | succ m ih =>
    intro p hp hm
    unfold skp
    by_cases c : p < L ∧ (t p).toInt = 32
    · have st : mX6_scans_s0 (sI v 1 (nI p)) = some (.inr (sI v 1 (nI (p + 1)))) := by
        unfold mX6_scans_s0
        rw [e_isAt (v := sI v 1 (nI p)) hL hB rfl hp, bs, b_i2, if_pos ⟨c.1, by rw [c.2]; decide, by rw [c.2]; decide⟩, show gI (sI v 1 (nI p)) 1 = nI p from rfl, sI_sI, i_s]
      rw [if_pos c, lp_go st]
      exact ih (p + 1) c.1 (by omega)
    · rw [if_neg c]
      refine lp_stop ?_
      unfold mX6_scans_s0
      have c' : ¬ (p < L ∧ (32 : Int32).toInt ≤ (t p).toInt ∧ (t p).toInt ≤ (32 : Int32).toInt) := by
        rw [show (32 : Int32).toInt = 32 from rfl]; omega
      rw [e_isAt (v := sI v 1 (nI p)) hL hB rfl hp, bs, b_i2, if_neg c']
/-- what letters come to -/
def hv (t : Nat → Int32) (s : Nat) : Nat → Int
  | 0 => 0
  | k + 1 => 32 * hv t s k + (t (s + k)).toInt - 96
def ha (t : Nat → Int32) (s k : Nat) : Int64 := if k ≤ 6 then Int64.ofInt (hv t s k) else 0
theorem hv_b {s k : Nat} (h : ∀ i, i < k → 97 ≤ (t (s + i)).toInt ∧ (t (s + i)).toInt ≤ 122) (hk : k ≤ 6) : 0 ≤ hv t s k ∧ hv t s k < 1073741824 := by
  rcases (show k = 0 ∨ k = 1 ∨ k = 2 ∨ k = 3 ∨ k = 4 ∨ k = 5 ∨ k = 6 by omega) with q | q | q | q | q | q | q <;> subst q
  · exact ⟨Int.le_refl _, show (0 : Int) < 1073741824 by decide⟩
  · have h0 := h 0 (by decide)
    simp only [hv]; omega
  · have h0 := h 0 (by decide); have h1 := h 1 (by decide)
    simp only [hv]; omega
  · have h0 := h 0 (by decide); have h1 := h 1 (by decide); have h2 := h 2 (by decide)
    simp only [hv]; omega
  · have h0 := h 0 (by decide); have h1 := h 1 (by decide); have h2 := h 2 (by decide); have h3 := h 3 (by decide)
    simp only [hv]; omega
  · have h0 := h 0 (by decide); have h1 := h 1 (by decide); have h2 := h 2 (by decide); have h3 := h 3 (by decide); have h4 := h 4 (by decide)
    simp only [hv]; omega
  · have h0 := h 0 (by decide); have h1 := h 1 (by decide); have h2 := h 2 (by decide); have h3 := h 3 (by decide); have h4 := h 4 (by decide); have h5 := h 5 (by decide)
    simp only [hv]; omega
theorem zl_oi {x : Int} (h1 : 0 ≤ x) (h2 : x < 9223372036854775808) : (Int64.ofInt x).toInt = x := by
  rw [Int64.toInt_ofInt]
  have := zl_bm x
  rw [show Int.bmod x (2 ^ 64) = x.bmod (2 ^ 64) from rfl, this]
  omega
theorem ha_s {s k : Nat} (h : ∀ i, i < k + 1 → 97 ≤ (t (s + i)).toInt ∧ (t (s + i)).toInt ≤ 122) (hk : k ≤ 5) : 32 * ha t s k + (t (s + k)).toInt64 - 97 + 1 = ha t s (k + 1) := by
  have b1 := hv_b (t := t) (s := s) (k := k) (fun i hi => h i (by omega)) (by omega)
  have b2 := hv_b (t := t) (s := s) (k := k + 1) h (by omega)
  have hc := h k (by omega)
  unfold ha
  rw [if_pos (by omega), if_pos (by omega)]
  refine Int64.toInt_inj.mp ?_
  rw [zl_oi b2.1 (by omega)]
  have e1 : (32 * Int64.ofInt (hv t s k)).toInt = 32 * hv t s k := by
    rw [zl_mul, zl_oi b1.1 (by omega), show (32 : Int64).toInt = 32 from rfl]; omega
  have e2 : (32 * Int64.ofInt (hv t s k) + (t (s + k)).toInt64).toInt = 32 * hv t s k + (t (s + k)).toInt := by
    rw [zl_add, e1, z_i2l]; omega
  have e3 : (32 * Int64.ofInt (hv t s k) + (t (s + k)).toInt64 - 97).toInt = 32 * hv t s k + (t (s + k)).toInt - 97 := by
    rw [zl_sub, e2, show (97 : Int64).toInt = 97 from rfl]; omega
  rw [zl_add, e3, show (1 : Int64).toInt = 1 from rfl]
  show _ = 32 * hv t s k + (t (s + k)).toInt - 96
  omega
theorem e_let6 {v : KS} {s : Nat} (hL : L ≤ 120) (hB : Bk v t L) (h2 : gI v 2 = nI s) : ∀ (m p : Nat), s ≤ p → p ≤ L → L - p ≤ m → (∀ i, s ≤ i → i < p → 97 ≤ (t i).toInt ∧ (t i).toInt ≤ 122) → ∃ a, lpF mX6_scans_s64 (ha t s (p - s), sI v 1 (nI p)) = some (a, sI v 1 (nI (run t L 1 m p))) ∧ a = ha t s (run t L 1 m p - s) := by
  intro m
  induction m with
  | zero =>
    intro p hs hp hm _
    refine ⟨_, lp_stop ?_, rfl⟩
    unfold mX6_scans_s64
    dsimp only
    rw [e_isAt (v := sI v 1 (nI p)) hL hB rfl hp, bs, b_i2, if_neg (by omega)]
    rfl
  | succ m ih =>
    intro p hs hp hm hin
    unfold run
    have cc : (p < L ∧ (97 : Int32).toInt ≤ (t p).toInt ∧ (t p).toInt ≤ (122 : Int32).toInt) ↔ (p < L ∧ srt (t p).toInt = 1) := by
      rw [srt_1, show (97 : Int32).toInt = 97 from rfl, show (122 : Int32).toInt = 122 from rfl]
    by_cases c : p < L ∧ srt (t p).toInt = 1
    · have hin' : ∀ i, s ≤ i → i < p + 1 → 97 ≤ (t i).toInt ∧ (t i).toInt ≤ 122 := by
        intro i q1 q2
        by_cases q3 : i = p
        · subst q3; exact srt_1.mp c.2
        · exact hin i q1 (by omega)
      have st : mX6_scans_s64 (ha t s (p - s), sI v 1 (nI p)) = some (.inr (ha t s (p + 1 - s), sI v 1 (nI (p + 1)))) := by
        unfold mX6_scans_s64
        dsimp only
        have e80 : (80 : Int32) + nI p = nI (80 + p) := i_add 80 p
        rw [e_isAt (v := sI v 1 (nI p)) hL hB rfl hp, bs, b_i2, if_pos (cc.mpr c), show gI (sI v 1 (nI p)) 1 = nI p from rfl, show gI (sI v 1 (nI p)) 2 = gI v 2 from rfl, h2, i_sub hs (by omega), e80, show gR (sI v 1 (nI p)) 0 = gR v 0 from rfl, sI_sI, i_s]
        by_cases c5 : p - s ≤ 5
        · have e9 := ha_s (t := t) (s := s) (k := p - s) (fun i hi => hin' (s + i) (by omega) (by omega)) c5
          rw [show s + (p - s) = p by omega, show p - s + 1 = p + 1 - s by omega] at e9
          rw [if_pos (show nI (p - s) ≤ 5 from nI_le (b := 5) c5 (by decide)), gd_t (i_k (by omega) (by decide)), i_cl (by omega), hB.2 p c.1, e9]
        · rw [if_neg (show ¬ nI (p - s) ≤ 5 from nI_ge (a := 5) (by omega) (by omega))]
          have e9 : ha t s (p + 1 - s) = 0 := by unfold ha; rw [if_neg (by omega)]
          rw [e9]
      rw [if_pos c, lp_go st]
      exact ih (p + 1) (by omega) c.1 (by omega) hin'
    · rw [if_neg c]
      refine ⟨_, lp_stop ?_, rfl⟩
      unfold mX6_scans_s64
      dsimp only
      rw [e_isAt (v := sI v 1 (nI p)) hL hB rfl hp, bs, b_i2, if_neg (fun q => c (cc.mp q))]
def nv (t : Nat → Int32) (s k : Nat) : Int32 := if k = 0 then 0 else if k = 1 then nI ((t s).toInt - 48).toNat else nI (10 * ((t s).toInt - 48) + ((t (s + 1)).toInt - 48)).toNat
theorem nv_s {s k : Nat} (h : ∀ i, i < k + 1 → 48 ≤ (t (s + i)).toInt ∧ (t (s + i)).toInt ≤ 57) (hk : k < 2) : 10 * nv t s k + t (s + k) - 48 = nv t s (k + 1) := by
  rcases (show k = 0 ∨ k = 1 by omega) with q | q <;> subst q
  · have h0 := h 0 (by decide)
    rw [Nat.add_zero] at h0 ⊢
    show (10 * 0 + t s - 48 : Int32) = nI ((t s).toInt - 48).toNat
    refine z_nat ?_
    rw [Int32.mul_zero, Int32.zero_add, z_subc (by show (-2147483648 : Int) ≤ _ - 48; omega) (by show _ - 48 < (2147483648 : Int); omega)]
    show _ - 48 = _
    omega
  · have h0 := h 0 (by decide)
    have h1 := h 1 (by decide)
    rw [Nat.add_zero] at h0
    show (10 * nI ((t s).toInt - 48).toNat + t (s + 1) - 48 : Int32) = nI (10 * ((t s).toInt - 48) + ((t (s + 1)).toInt - 48)).toNat
    refine z_nat ?_
    have e0 : (nI ((t s).toInt - 48).toNat).toInt = (t s).toInt - 48 := by rw [z_nN (by omega)]; omega
    have m1 : (10 * nI ((t s).toInt - 48).toNat).toInt = 10 * ((t s).toInt - 48) := by rw [z_mulc (by rw [e0]; show (-2147483648 : Int) ≤ 10 * _; omega) (by rw [e0]; show 10 * _ < (2147483648 : Int); omega), e0]; rfl
    have m2 : (10 * nI ((t s).toInt - 48).toNat + t (s + 1)).toInt = 10 * ((t s).toInt - 48) + (t (s + 1)).toInt := by rw [z_addc (by omega) (by omega), m1]
    rw [z_subc (by rw [m2]; show (-2147483648 : Int) ≤ _ - 48; omega) (by rw [m2]; show _ - 48 < (2147483648 : Int); omega), m2]
    show _ - 48 = _
    omega
theorem e_num6 {v : KS} {s : Nat} (hL : L ≤ 120) (hB : Bk v t L) (h2 : gI v 2 = nI s) : ∀ (m p : Nat), s ≤ p → p ≤ L → L - p ≤ m → (∀ i, s ≤ i → i < p → 48 ≤ (t i).toInt ∧ (t i).toInt ≤ 57) → lpF mX6_scans_s173 (sI (sI v 1 (nI p)) 4 (nv t s (p - s))) = some (sI (sI v 1 (nI (run t L 2 m p))) 4 (nv t s (run t L 2 m p - s))) := by
  intro m
  induction m with
  | zero =>
    intro p hs hp hm _
    refine lp_stop ?_
    unfold mX6_scans_s173
    rw [e_isAt (v := sI (sI v 1 (nI p)) 4 (nv t s (p - s))) hL hB rfl hp, bs, b_i2, if_neg (by omega)]
    rfl
  | succ m ih =>
    intro p hs hp hm hin
    unfold run
    have cc : (p < L ∧ (48 : Int32).toInt ≤ (t p).toInt ∧ (t p).toInt ≤ (57 : Int32).toInt) ↔ (p < L ∧ srt (t p).toInt = 2) := by
      rw [srt_2, show (48 : Int32).toInt = 48 from rfl, show (57 : Int32).toInt = 57 from rfl]
    by_cases c : p < L ∧ srt (t p).toInt = 2
    · have hin' : ∀ i, s ≤ i → i < p + 1 → 48 ≤ (t i).toInt ∧ (t i).toInt ≤ 57 := by
        intro i q1 q2
        by_cases q3 : i = p
        · subst q3; exact srt_2.mp c.2
        · exact hin i q1 (by omega)
      have sI4 : ∀ (x y : Int32) (a b : Int32), sI (sI (sI (sI v 1 a) 4 x) 1 b) 4 y = sI (sI v 1 b) 4 y := by
        intro x y a b
        rw [sI_c (sI v 1 a) x b (by decide), sI_sI, sI_sI]
      have st : mX6_scans_s173 (sI (sI v 1 (nI p)) 4 (nv t s (p - s))) = some (.inr (sI (sI v 1 (nI (p + 1))) 4 (nv t s (p + 1 - s)))) := by
        unfold mX6_scans_s173
        have e80 : (80 : Int32) + nI p = nI (80 + p) := i_add 80 p
        rw [e_isAt (v := sI (sI v 1 (nI p)) 4 (nv t s (p - s))) hL hB rfl hp, bs, b_i2, if_pos (cc.mpr c), show gI (sI (sI v 1 (nI p)) 4 (nv t s (p - s))) 1 = nI p from rfl, show gI (sI (sI v 1 (nI p)) 4 (nv t s (p - s))) 2 = gI v 2 from rfl, show gI (sI (sI v 1 (nI p)) 4 (nv t s (p - s))) 4 = nv t s (p - s) from rfl, h2, i_sub hs (by omega), e80, show gR (sI (sI v 1 (nI p)) 4 (nv t s (p - s))) 0 = gR v 0 from rfl, sI4, sI4, i_s]
        by_cases c5 : 2 ≤ p - s
        · rw [if_pos (show 2 ≤ nI (p - s) from nI_le (a := 2) c5 (by omega))]
          have e9 : nv t s (p + 1 - s) = nv t s (p - s) := by
            unfold nv
            rw [if_neg (show ¬ p + 1 - s = 0 by omega), if_neg (show ¬ p + 1 - s = 1 by omega), if_neg (show ¬ p - s = 0 by omega), if_neg (show ¬ p - s = 1 by omega)]
          rw [e9]
        · have e9 := nv_s (t := t) (s := s) (k := p - s) (fun i hi => hin' (s + i) (by omega) (by omega)) (by omega)
          rw [show s + (p - s) = p by omega, show p - s + 1 = p + 1 - s by omega] at e9
          rw [if_neg (show ¬ 2 ≤ nI (p - s) from nI_ge (b := 2) (by omega) (by decide)), gd_t (i_k (by omega) (by decide)), i_cl (by omega), hB.2 p c.1, e9]
      rw [if_pos c, lp_go st]
      exact ih (p + 1) (by omega) c.1 (by omega) hin'
    · rw [if_neg c]
      refine lp_stop ?_
      unfold mX6_scans_s173
      rw [e_isAt (v := sI (sI v 1 (nI p)) 4 (nv t s (p - s))) hL hB rfl hp, bs, b_i2, if_neg (fun q => c (cc.mp q))]
end SCN
