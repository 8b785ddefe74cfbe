/-! digits to the base 2^30; rows of limbs -/
theorem sr30 (x : Int64) : (x >>> ((30 : Int32).toInt64 &&& 63)).toInt = x.toInt / 1073741824 := by
  have e : (x >>> ((30 : Int32).toInt64 &&& 63)).toInt = (x.toBitVec.sshiftRight' (((30 : Int32).toInt64 &&& 63).toBitVec.smod 64)).toInt := rfl
  have h30 : (((30 : Int32).toInt64 &&& 63).toBitVec.smod 64).toNat = 30 := by decide
  rw [e, BitVec.toInt_sshiftRight', h30, Int.shiftRight_eq_div_pow]
  rfl
theorem ml64 (x : Int64) : (x &&& 1073741823).toInt = x.toInt % 1073741824 := by
  have e : (x &&& 1073741823).toInt = (x.toBitVec &&& 1073741823#64).toInt := rfl
  have h1 : (x.toBitVec &&& 1073741823#64).toNat = x.toBitVec.toNat % 1073741824 := by
    rw [BitVec.toNat_and]
    exact Nat.and_two_pow_sub_one_eq_mod _ 30
  have e2 : x.toInt = x.toBitVec.toInt := rfl
  have hlt := x.toBitVec.isLt
  rw [e, e2, BitVec.toInt_eq_toNat_cond, BitVec.toInt_eq_toNat_cond, h1]
  split <;> split <;> omega
theorem mi32 (x : Int32) : (x &&& 1073741823).toInt = x.toInt % 1073741824 := by
  have e : (x &&& 1073741823).toInt = (x.toBitVec &&& 1073741823#32).toInt := rfl
  have h1 : (x.toBitVec &&& 1073741823#32).toNat = x.toBitVec.toNat % 1073741824 := by
    rw [BitVec.toNat_and]
    exact Nat.and_two_pow_sub_one_eq_mod _ 30
  have e2 : x.toInt = x.toBitVec.toInt := rfl
  have hlt := x.toBitVec.isLt
  rw [e, e2, BitVec.toInt_eq_toNat_cond, BitVec.toInt_eq_toNat_cond, h1]
  split <;> split <;> omega
theorem zl_inj {a b : Int64} (h : a.toInt = b.toInt) : a = b := Int64.toInt_inj.mp h
theorem zl_nN {n : Nat} (h : n < 9223372036854775808) : (lN n).toInt = (n : Int) := by rw [zl_lN]; omega
theorem zl_nat {a : Int64} {n : Nat} (h : a.toInt = (n : Int)) : a = lN n := by
  have h1 := zl_rng a
  exact zl_inj (h.trans (zl_nN (by omega)).symm)
theorem lsr30 {a : Nat} (h : a < 9223372036854775808) : lN a >>> ((30 : Int32).toInt64 &&& 63) = lN (a / 1073741824) := by
  refine zl_nat ?_
  rw [sr30, zl_nN h]
  omega
theorem lmk30 {a : Nat} (h : a < 9223372036854775808) : lN a &&& 1073741823 = lN (a % 1073741824) := by
  refine zl_nat ?_
  rw [ml64, zl_nN h]
  omega
theorem imk30 {a : Nat} (h : a < 2147483648) : nI a &&& 1073741823 = nI (a % 1073741824) := by
  refine z_nat ?_
  rw [mi32, z_nN h]
  omega
/-! digits -/
theorem Bp (k : Nat) : 0 < 1073741824 ^ k := Nat.pow_pos (by decide)
theorem Bs (k : Nat) : 1073741824 ^ (k + 1) = 1073741824 ^ k * 1073741824 := Nat.pow_succ ..
theorem nd_s (x k : Nat) : x % 1073741824 ^ (k + 1) = x % 1073741824 ^ k + 1073741824 ^ k * lb x k := Nat.mod_pow_succ
theorem dgN {P t X Z M : Nat} (hP : 0 < P) (hZ : Z = t + P * (X + 1073741824 * M)) : Z / P % 1073741824 = (X + t / P) % 1073741824 := by
  rw [hZ, Nat.add_mul_div_left _ _ hP]
  generalize t / P = q
  omega
theorem dgC {P t X : Nat} (hP : 0 < P) : (t + P * X) / (P * 1073741824) = (X + t / P) / 1073741824 := by
  rw [← Nat.div_div_eq_div_mul, Nat.add_mul_div_left _ _ hP, Nat.add_comm]
theorem lb_0 {x k : Nat} (h : x < 1073741824 ^ k) : lb x k = 0 := by
  unfold lb
  rw [Nat.div_eq_of_lt h]
theorem lb_0w {x w k : Nat} (h : x < 1073741824 ^ w) (hk : w ≤ k) : lb x k = 0 := lb_0 (Nat.lt_of_lt_of_le h (Nat.pow_le_pow_right (by decide) hk))
theorem lb_top {x w : Nat} (h : x < 1073741824 ^ (w + 1)) : lb x w = x / 1073741824 ^ w := by
  unfold lb
  refine Nat.mod_eq_of_lt ?_
  rw [Bs, Nat.mul_comm] at h
  exact Nat.div_lt_of_lt_mul (by rw [Nat.mul_comm]; exact h)
theorem lb_top0 {x w : Nat} (h : x < 1073741824 ^ (w + 1)) : lb x w = 0 ↔ x < 1073741824 ^ w := by
  rw [lb_top h]
  constructor
  · intro q
    exact (Nat.div_eq_zero_iff.mp q).resolve_left (by have := Bp w; omega)
  · intro q; exact Nat.div_eq_of_lt q
theorem upd2 (f : Nat → Int32) (k : Nat) (x y : Int32) : upd (upd f k x) k y = upd f k y := by
  funext j
  by_cases h : j = k
  · rw [h, u_is, u_is]
  · rw [u_no _ _ _ h, u_no _ _ _ h, u_no _ _ _ h]
theorem updS (f : Nat → Int32) (k : Nat) : upd f k (f k) = f := by
  funext j
  rw [u_s]
  split
  · next h => rw [h]
  · rfl
/-- a row holds a number -/
def IsW (w x : Nat) : Prop := x < 1073741824 ^ w ∧ (w = 0 ∨ 1073741824 ^ (w - 1) ≤ x)
theorem IsW.le {w x : Nat} (h : IsW w x) (hx : x < 1073741824 ^ 3) : w ≤ 3 := by
  refine Nat.le_of_not_lt (fun q => ?_)
  rcases h.2 with h0 | h0
  · omega
  · have := Nat.pow_le_pow_right (n := 1073741824) (by decide) (show 3 ≤ w - 1 by omega)
    omega
theorem IsW.z {w x : Nat} (h : IsW w x) : w = 0 ↔ x = 0 := by
  constructor
  · intro q; subst q; have := h.1; rw [Nat.pow_zero] at this; omega
  · intro q
    rcases h.2 with h0 | h0
    · exact h0
    · have := Bp (w - 1); omega
theorem IsW_lc {w x : Nat} (h : IsW w x) (hx : x < 1073741824 ^ 3) : w = lc x := by
  have hw := h.le hx
  obtain ⟨h1, h2⟩ := h
  have p1 : (1073741824 : Nat) ^ 1 = 1073741824 := rfl
  have p2 : (1073741824 : Nat) ^ 2 = 1152921504606846976 := rfl
  have p3 : (1073741824 : Nat) ^ 3 = 1237940039285380274899124224 := rfl
  unfold lc
  rw [show (1073741824 : Nat) * 1073741824 = 1152921504606846976 from rfl]
  rcases (show w = 0 ∨ w = 1 ∨ w = 2 ∨ w = 3 by omega) with q | q | q | q <;> subst q
  · rw [Nat.pow_zero] at h1
    rw [if_pos (by omega)]
  · rw [p1] at h1
    have h3 : 1073741824 ^ (1 - 1) ≤ x := h2.resolve_left (by decide)
    rw [show (1073741824 : Nat) ^ (1 - 1) = 1 from rfl] at h3
    rw [if_neg (by omega), if_pos h1]
  · rw [p2] at h1
    have h3 : 1073741824 ^ (2 - 1) ≤ x := h2.resolve_left (by decide)
    rw [show (1073741824 : Nat) ^ (2 - 1) = 1073741824 from rfl] at h3
    rw [if_neg (by omega), if_neg (by omega), if_pos h1]
  · have h3 : 1073741824 ^ (3 - 1) ≤ x := h2.resolve_left (by decide)
    rw [show (1073741824 : Nat) ^ (3 - 1) = 1152921504606846976 from rfl] at h3
    rw [if_neg (by omega), if_neg (by omega), if_neg (by omega)]
def RH (v : KS) (r x : Nat) : Prop := x < 1073741824 ^ 3 ∧ (∀ k, k < 12 → gR v 4 (12 * r + k) = nI (lb x k)) ∧ ∃ w, gR v 5 r = nI w ∧ w ≤ 3 ∧ IsW w x
def LF (r : Nat) (v v' : KS) : Prop := (∀ k, gI v' k = gI v k) ∧ (∀ k, k ≠ 4 ∧ k ≠ 5 → gR v' k = gR v k) ∧ (∀ j, j < 12 * r ∨ 12 * r + 12 ≤ j → gR v' 4 j = gR v 4 j) ∧ (∀ j, j ≠ r → gR v' 5 j = gR v 5 j) ∧ gL v' = gL v ∧ gA v' = gA v ∧ gO v' = gO v
theorem LF.tr {r : Nat} {u v w : KS} (h : LF r u v) (g : LF r v w) : LF r u w := ⟨fun k => (g.1 k).trans (h.1 k), fun k hk => (g.2.1 k hk).trans (h.2.1 k hk), fun k hk => (g.2.2.1 k hk).trans (h.2.2.1 k hk), fun k hk => (g.2.2.2.1 k hk).trans (h.2.2.2.1 k hk), g.2.2.2.2.1.trans h.2.2.2.2.1, g.2.2.2.2.2.1.trans h.2.2.2.2.2.1, g.2.2.2.2.2.2.trans h.2.2.2.2.2.2⟩
theorem LF.mk {r : Nat} {v : KS} {F G : Nat → Int32} (h1 : ∀ j, j < 12 * r ∨ 12 * r + 12 ≤ j → F j = gR v 4 j) (h2 : ∀ j, j ≠ r → G j = gR v 5 j) : LF r v (sR (sR v 4 F) 5 G) := ⟨fun _ => rfl, fun k hk => by rw [s_RR, if_neg hk.2, s_RR, if_neg hk.1], h1, h2, rfl, rfl, rfl⟩
theorem RH.lf {v v' : KS} {q r y : Nat} (h : RH v q y) (l : LF r v v') (hn : q ≠ r) : RH v' q y := by
  obtain ⟨h1, h2, w, h3, h4⟩ := h
  exact ⟨h1, fun k hk => (l.2.2.1 _ (by omega)).trans (h2 k hk), w, (l.2.2.2.1 q hn).trans h3, h4⟩
theorem e12 (r k : Nat) : 12 * nI r + nI k = nI (12 * r + k) := by rw [show (12 : Int32) = nI 12 from rfl, i_mul, i_add]
theorem sh_k {x k : Nat} (hx : x < 4611686018427387904) (hk : k < 3) : ((lN x >>> ((30 * nI k).toInt64 &&& 63)) &&& 1073741823) = lN (lb x k) := by
  have gen : ∀ (n : Int64) (d : Nat), (n.toBitVec.smod 64).toNat = d → (lN x >>> n).toInt = (x : Int) / 2 ^ d := by
    intro n d hn
    have e : (lN x >>> n).toInt = ((lN x).toBitVec.sshiftRight' (n.toBitVec.smod 64)).toInt := rfl
    rw [e, BitVec.toInt_sshiftRight', hn, Int.shiftRight_eq_div_pow]
    have e2 : (lN x).toBitVec.toInt = (x : Int) := zl_nN (by omega)
    rw [e2]
    rfl
  refine zl_nat ?_
  rw [ml64]
  unfold lb
  rcases (show k = 0 ∨ k = 1 ∨ k = 2 by omega) with q | q | q <;> subst q
  · rw [gen _ 0 (by decide)]
    rw [Nat.pow_zero, Nat.div_one]
    omega
  · rw [gen _ 30 (by decide), Nat.pow_one]
    omega
  · rw [gen _ 60 (by decide), show (1073741824 : Nat) ^ 2 = 1152921504606846976 from rfl]
    omega
