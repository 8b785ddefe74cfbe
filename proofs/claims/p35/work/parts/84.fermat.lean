/-! a number times itself p - 2 times is one, to a prime -/
def ch : Nat → Nat → Nat
  | _, 0 => 1
  | 0, _ + 1 => 0
  | n + 1, k + 1 => ch n k + ch n (k + 1)
theorem ch_0 (n : Nat) : ch n 0 = 1 := by cases n <;> rfl
theorem ch_big : ∀ n k, n < k → ch n k = 0 := by
  intro n
  induction n with
  | zero =>
    intro k hk
    cases k with
    | zero => omega
    | succ k => rfl
  | succ n ih =>
    intro k hk
    cases k with
    | zero => omega
    | succ k =>
      show ch n k + ch n (k + 1) = 0
      rw [ih k (by omega), ih (k + 1) (by omega)]
theorem ch_nn : ∀ n, ch n n = 1 := by
  intro n
  induction n with
  | zero => rfl
  | succ n ih =>
    show ch n n + ch n (n + 1) = 1
    rw [ih, ch_big n (n + 1) (by omega)]
theorem ch_mul : ∀ n k, (k + 1) * ch (n + 1) (k + 1) = (n + 1) * ch n k := by
  intro n
  induction n with
  | zero =>
    intro k
    cases k with
    | zero => rfl
    | succ k =>
      show (k + 1 + 1) * (ch 0 (k + 1) + ch 0 (k + 1 + 1)) = (0 + 1) * ch 0 (k + 1)
      rw [ch_big 0 (k + 1) (by omega), ch_big 0 (k + 1 + 1) (by omega)]
      rfl
  | succ n ih =>
    intro k
    cases k with
    | zero =>
      show (0 + 1) * (ch (n + 1) 0 + ch (n + 1) (0 + 1)) = (n + 1 + 1) * ch (n + 1) 0
      have := ih 0
      rw [ch_0] at this ⊢
      omega
    | succ k =>
      have h1 := ih k
      have h2 := ih (k + 1)
      show (k + 1 + 1) * (ch (n + 1) (k + 1) + ch (n + 1) (k + 1 + 1)) = (n + 1 + 1) * ch (n + 1) (k + 1)
      have h3 : ch (n + 1) (k + 1) = ch n k + ch n (k + 1) := rfl
      rw [Nat.mul_add, h2, Nat.add_mul (k + 1) 1, h1, Nat.add_mul (n + 1) 1, Nat.one_mul]
      rw [h3, Nat.mul_add]
      omega
/-- (b + 1)^n by its terms -/
theorem bin_s (n b : Nat) : ∀ m, sm (fun k => ch (n + 1) k * b ^ k) (m + 1) = sm (fun k => ch n k * b ^ k) (m + 1) + b * sm (fun k => ch n k * b ^ k) m := by
  intro m
  induction m with
  | zero =>
    show 0 + ch (n + 1) 0 * b ^ 0 = (0 + ch n 0 * b ^ 0) + b * 0
    rw [ch_0, ch_0]
    omega
  | succ m ih =>
    show sm (fun k => ch (n + 1) k * b ^ k) (m + 1) + ch (n + 1) (m + 1) * b ^ (m + 1) = sm (fun k => ch n k * b ^ k) (m + 1) + ch n (m + 1) * b ^ (m + 1) + b * (sm (fun k => ch n k * b ^ k) m + ch n m * b ^ m)
    rw [ih, show ch (n + 1) (m + 1) = ch n m + ch n (m + 1) from rfl, Nat.add_mul, Nat.mul_add, Nat.pow_succ]
    have : ch n m * (b ^ m * b) = b * (ch n m * b ^ m) := by rw [← Nat.mul_assoc, Nat.mul_comm]
    rw [this]
    omega
theorem bin (b : Nat) : ∀ n, sm (fun k => ch n k * b ^ k) (n + 1) = (b + 1) ^ n := by
  intro n
  induction n with
  | zero => rfl
  | succ n ih =>
    rw [bin_s n b (n + 1)]
    show sm (fun k => ch n k * b ^ k) (n + 1) + ch n (n + 1) * b ^ (n + 1) + b * sm (fun k => ch n k * b ^ k) (n + 1) = _
    rw [ih, ch_big n (n + 1) (by omega), Nat.zero_mul, Nat.pow_succ, Nat.mul_add, Nat.mul_one, Nat.mul_comm b]
    omega
/-- a prime, as far as it is used here -/
def Pm (p : Nat) : Prop := 2 ≤ p ∧ ∀ k, 0 < k → k < p → Nat.Coprime p k
section PM
variable {p : Nat} (hP : Pm p)
theorem ch_dvd (hP : Pm p) {k : Nat} (h0 : 0 < k) (h1 : k < p) : p ∣ ch p k := by
  obtain ⟨n, rfl⟩ : ∃ n, p = n + 1 := ⟨p - 1, by omega⟩
  obtain ⟨j, rfl⟩ : ∃ j, k = j + 1 := ⟨k - 1, by omega⟩
  have h := ch_mul n j
  have hd : (n + 1) ∣ (j + 1) * ch (n + 1) (j + 1) := ⟨ch n j, h⟩
  exact Nat.Coprime.dvd_of_dvd_mul_left (hP.2 (j + 1) h0 h1) hd
theorem bin_p (hP : Pm p) (b : Nat) : ∀ m, 1 ≤ m → m ≤ p → ∃ M, sm (fun k => ch p k * b ^ k) m = 1 + p * M := by
  intro m
  induction m with
  | zero => intro h; omega
  | succ m ih =>
    intro _ h2
    by_cases c : m = 0
    · subst c
      refine ⟨0, ?_⟩
      show 0 + ch p 0 * b ^ 0 = 1 + p * 0
      rw [ch_0, Nat.pow_zero]
      omega
    · obtain ⟨M, hM⟩ := ih (by omega) (by omega)
      obtain ⟨q, hq⟩ := ch_dvd hP (k := m) (by omega) (by omega)
      refine ⟨M + q * b ^ m, ?_⟩
      show sm (fun k => ch p k * b ^ k) m + ch p m * b ^ m = _
      rw [hM, hq, Nat.mul_add, Nat.mul_assoc, Nat.add_assoc]
theorem frob (hP : Pm p) (b : Nat) : ∃ M, (b + 1) ^ p = b ^ p + 1 + p * M := by
  obtain ⟨M, hM⟩ := bin_p hP b p (by have := hP.1; omega) (Nat.le_refl _)
  refine ⟨M, ?_⟩
  rw [← bin b p]
  show sm (fun k => ch p k * b ^ k) p + ch p p * b ^ p = _
  rw [hM, ch_nn, Nat.one_mul]
  omega
theorem fermat (hP : Pm p) : ∀ b, b ^ p % p = b % p := by
  intro b
  induction b with
  | zero =>
    rw [Nat.zero_pow (by have := hP.1; omega)]
  | succ b ih =>
    obtain ⟨M, hM⟩ := frob hP b
    rw [hM, Nat.add_mul_mod_self_left, Nat.add_mod, ih, ← Nat.add_mod]
theorem cop_mod (hP : Pm p) {b : Nat} (hb : b % p ≠ 0) : Nat.Coprime p b := by
  have h := hP.2 (b % p) (by omega) (Nat.mod_lt _ (by have := hP.1; omega))
  unfold Nat.Coprime at h ⊢
  rw [Nat.gcd_rec p b, Nat.gcd_comm]
  exact h
theorem inv_mod (hP : Pm p) {b : Nat} (hb : b % p ≠ 0) : b * b ^ (p - 2) % p = 1 := by
  have h2 := hP.1
  have hc := cop_mod hP hb
  have e : b ^ p = b * (b * b ^ (p - 2)) := by
    rw [← Nat.pow_succ', ← Nat.pow_succ']
    congr 1
    omega
  have hf := fermat hP b
  rw [e] at hf
  have hpos : 0 < b := Nat.pos_of_ne_zero fun h => hb (by rw [h]; exact Nat.zero_mod _)
  generalize hy : b * b ^ (p - 2) = y at *
  have hy1 : 1 ≤ y := by rw [← hy]; exact Nat.mul_pos hpos (Nat.pow_pos hpos)
  have h3 : b * y = b * (y - 1) + b := by
    have : y = y - 1 + 1 := by omega
    rw [this, Nat.mul_add, Nat.mul_one, Nat.add_sub_cancel]
  have h4 : (b * (y - 1)) % p = 0 := by
    have a1 := Nat.div_add_mod (b * y) p
    have a2 := Nat.div_add_mod b p
    rw [hf] at a1
    have a4 : b * (y - 1) = p * (b * y / p) - p * (b / p) := by omega
    rw [a4, ← Nat.mul_sub, Nat.mul_mod_right]
  have h5 : p ∣ y - 1 := Nat.Coprime.dvd_of_dvd_mul_left hc (Nat.dvd_of_mod_eq_zero h4)
  obtain ⟨q, hq⟩ := h5
  have h6 : y = 1 + p * q := by omega
  rw [h6, Nat.add_mul_mod_self_left]
  exact Nat.mod_eq_of_lt (by omega)
theorem nz_mul (hP : Pm p) {a b : Nat} (ha : a % p ≠ 0) (hb : b % p ≠ 0) : (a * b) % p ≠ 0 := fun h => by
  have h5 : p ∣ b := Nat.Coprime.dvd_of_dvd_mul_left (cop_mod hP ha) (Nat.dvd_of_mod_eq_zero h)
  exact hb (Nat.mod_eq_zero_of_dvd h5)
end PM
/-! 998244353 is one -/
def tdv (p : Nat) : Nat → Nat → Bool
  | 0, _ => true
  | f + 1, d => (p % d != 0) && tdv p f (d + 1)
theorem tdv_ok {p : Nat} : ∀ f d, tdv p f d = true → ∀ k, d ≤ k → k < d + f → p % k ≠ 0 := by
  intro f
  induction f with
  | zero => intro d _ k h1 h2; omega
  | succ f ih =>
    intro d h k h1 h2
    unfold tdv at h
    rw [Bool.and_eq_true] at h
    by_cases c : k = d
    · subst c
      exact bne_iff_ne.mp h.1
    · exact ih (d + 1) h.2 k (by omega) (by omega)
theorem tdv_all : ∀ j, j < 64 → tdv 998244353 500 (2 + 500 * j) = true := by decide +kernel
theorem pm_998 : Pm 998244353 := by
  have hs : ∀ k, 2 ≤ k → k < 32000 → 998244353 % k ≠ 0 := fun k h1 h2 => tdv_ok 500 _ (tdv_all ((k - 2) / 500) (by omega)) k (by omega) (by omega)
  refine ⟨by decide, fun k h0 h1 => ?_⟩
  unfold Nat.Coprime
  obtain ⟨d, hd⟩ : ∃ d, d = Nat.gcd 998244353 k := ⟨_, rfl⟩
  have d1 : d ∣ 998244353 := by rw [hd]; exact Nat.gcd_dvd_left _ _
  have d2 : d ∣ k := by rw [hd]; exact Nat.gcd_dvd_right _ _
  have dpos : 0 < d := by rw [hd]; exact Nat.gcd_pos_of_pos_right _ h0
  have dle : d ≤ k := Nat.le_of_dvd h0 d2
  rw [← hd]
  refine Classical.byContradiction fun hne => ?_
  obtain ⟨e, he⟩ := d1
  by_cases c : d < 32000
  · exact hs d (by omega) c (Nat.mod_eq_zero_of_dvd ⟨e, he⟩)
  · have hm : 32000 * e ≤ d * e := Nat.mul_le_mul_right e (by omega)
    have e1 : e ≠ 0 := fun z => by rw [z, Nat.mul_zero] at he; omega
    have e2 : e ≠ 1 := fun z => by rw [z, Nat.mul_one] at he; omega
    exact hs e (by omega) (by omega) (Nat.mod_eq_zero_of_dvd ⟨d, by rw [Nat.mul_comm]; exact he⟩)
/-! the law's power -/
theorem lsr1 {a : Nat} (h : a < 9223372036854775808) : lN a >>> ((1 : Int32).toInt64 &&& 63) = lN (a / 2) := by
  have e : (lN a >>> ((1 : Int32).toInt64 &&& 63)).toInt = ((lN a).toBitVec.sshiftRight' (((1 : Int32).toInt64 &&& 63).toBitVec.smod 64)).toInt := rfl
  have h1 : (((1 : Int32).toInt64 &&& 63).toBitVec.smod 64).toNat = 1 := by decide
  have e2 : (lN a).toBitVec.toInt = (a : Int) := zl_nN h
  refine zl_nat ?_
  rw [e, BitVec.toInt_sshiftRight', h1, Int.shiftRight_eq_div_pow, e2]
  exact (Int.natCast_ediv a (2 ^ 1)).symm
theorem land1 {a : Nat} (h : a < 9223372036854775808) : lN a &&& 1 = lN (a % 2) := by
  have e : (lN a &&& 1).toInt = ((lN a).toBitVec &&& 1#64).toInt := rfl
  have h1 : ((lN a).toBitVec &&& 1#64).toNat = (lN a).toBitVec.toNat % 2 := by
    rw [BitVec.toNat_and]
    exact Nat.and_two_pow_sub_one_eq_mod _ 1
  have e2 : (lN a).toBitVec.toInt = (a : Int) := zl_nN h
  have hlt := (lN a).toBitVec.isLt
  refine zl_nat ?_
  rw [BitVec.toInt_eq_toNat_cond] at e2
  rw [e, BitVec.toInt_eq_toNat_cond, h1]
  split at e2 <;> split <;> omega
theorem pow_half (x n : Nat) : x ^ n = (x * x) ^ (n / 2) * x ^ (n % 2) := by
  rw [← Nat.pow_two, ← Nat.pow_mul, ← Nat.pow_add]
  congr 1
  omega
theorem e_powL {p : Nat} (hp : 0 < p ∧ p < 2147483648) : ∀ N n x out, n < N → n < 4611686018427387904 → x < p → out < p → lpF (mL_power_s12 (lN p)) (lN out, lN x, lN n) = some (lN (out * x ^ n % p)) := by
  intro N
  induction N with
  | zero => intro n x out h; omega
  | succ N ih =>
    intro n x out hN hn hx ho
    by_cases c : n = 0
    · subst c
      refine lp_stop ?_
      unfold mL_power_s12
      dsimp only
      rw [if_pos ((lN_le0 (a := 0) (by decide)).mpr rfl), Nat.pow_zero, Nat.mul_one, Nat.mod_eq_of_lt ho]
    · have hxx : x * x < 4611686018427387904 := Nat.lt_of_le_of_lt (Nat.mul_le_mul (show x ≤ 2147483647 by omega) (show x ≤ 2147483647 by omega)) (by decide)
      have hox : out * x < 4611686018427387904 := Nat.lt_of_le_of_lt (Nat.mul_le_mul (show out ≤ 2147483647 by omega) (show x ≤ 2147483647 by omega)) (by decide)
      have hnz : ¬ lN p = (0 : Int64) := fun z => by
        have := lN_inj (a := p) (b := 0) (by omega) (by decide) z
        omega
      have mx : lN x * lN x - lN x * lN x / lN p * lN p = lN (x * x % p) := by rw [lN_mul, l_rem (by omega) (by omega)]
      have mo : lN out * lN x - lN out * lN x / lN p * lN p = lN (out * x % p) := by rw [lN_mul, l_rem (by omega) (by omega)]
      have hj : ∀ t : Nat, mL_power_s12_j41 (lN p) (lN x) (lN n) (lN t) = some (.inr (lN t, lN (x * x % p), lN (n / 2))) := fun t => by
        unfold mL_power_s12_j41
        rw [gd_t hnz, mx, lsr1 (by omega)]
      have st : mL_power_s12 (lN p) (lN out, lN x, lN n) = some (.inr (lN (out * x ^ (n % 2) % p), lN (x * x % p), lN (n / 2))) := by
        unfold mL_power_s12
        dsimp only
        rw [if_neg (fun z => c ((lN_le0 (a := n) (by omega)).mp z)), land1 (by omega)]
        by_cases d : n % 2 = 1
        · rw [if_pos (by rw [d]; decide), gd_t hnz, mo, hj, d, Nat.pow_one]
        · have d0 : n % 2 = 0 := by omega
          rw [if_neg (by rw [d0]; decide), hj, d0, Nat.pow_zero, Nat.mul_one, Nat.mod_eq_of_lt ho]
      rw [lp_go st, ih (n / 2) (x * x % p) (out * x ^ (n % 2) % p) (by omega) (by omega) (Nat.mod_lt _ hp.1) (Nat.mod_lt _ hp.1)]
      congr 2
      rw [Nat.mul_mod (out * x ^ (n % 2) % p), Nat.mod_mod, Nat.pow_mod, Nat.mod_mod, ← Nat.pow_mod, ← Nat.mul_mod, Nat.mul_assoc, Nat.mul_comm (x ^ (n % 2)), ← pow_half]
theorem s_power {p v n : Nat} (hp : 1 < p ∧ p < 2147483648) (hv : v < 4611686018427387904) (hn : n < 4611686018427387904) : mL_power (lN v) (lN n) (lN p) = some (lN ((v % p) ^ n % p)) := by
  have hnz : ¬ lN p = (0 : Int64) := fun z => by
    have := lN_inj (a := p) (b := 0) (by omega) (by decide) z
    omega
  have k := e_powL (p := p) ⟨by omega, hp.2⟩ (n + 1) n (v % p) 1 (by omega) hn (Nat.mod_lt _ (by omega)) hp.1
  rw [Nat.one_mul] at k
  unfold mL_power
  rw [gd_t hnz, l_rem (by omega) (by omega)]
  have k' : lpF (mL_power_s12 (lN p)) (1, lN (v % p), lN n) = some (lN ((v % p) ^ n % p)) := k
  rw [k', bs]
