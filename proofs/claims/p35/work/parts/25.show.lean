/-! status, count -/
def fcn (b : Nat → Int32) (x : Int32) : Int32 := fd (fun k x => if b (15 + k) = -1 then x else x + 1) 4 x
theorem e_fcount5 {u : KS} {b : Nat → Int32} (h : Km u b) : mX3_faultCount u = some (fcn b 0) := by
  unfold mX3_faultCount
  have e := lp_fd0 (S := mX3_faultCount_s13 u 4) (fun k (x : Int32) => (x, nI k)) (fun k x => if b (15 + k) = -1 then x else x + 1) id 4 0
    (fun k x hk => by
      unfold mX3_faultCount_s13
      dsimp only
      rw [if_neg (show ¬ (4 : Int32) ≤ nI k from nI_ge hk (by decide)), gd_t (i_k hk (by decide)), i_cl (by omega), (h k hk).1, i_s]
      split <;> rfl)
    (fun x => by
      unfold mX3_faultCount_s13
      dsimp only
      rw [if_pos (show (4 : Int32) ≤ nI 4 from Int32.le_refl _)]
      rfl)
  exact (congrArg (fun o => Option.bind o fun e => some e) e).trans rfl
theorem z_is {a : Int32} {n : Nat} (hn : n < 2147483648) (h : a.toInt = (n : Int)) : a = nI n := z_nat h
/-! limbs -/
theorem lN_inj {a b : Nat} (ha : a < 9223372036854775808) (hb : b < 9223372036854775808) (h : lN a = lN b) : a = b := by
  have h2 := congrArg Int64.toInt h
  rw [zl_lN, zl_lN] at h2
  omega
theorem lN_i32 {a : Nat} (ha : a < 2147483648) : (lN a).toInt32 = nI a := by
  refine z_inj ?_
  rw [zl_l2i, zl_lN, z_nN ha]
  omega
theorem nI_i64 {a : Nat} (ha : a < 2147483648) : (nI a).toInt64 = lN a := nI_l ha
theorem lb_lt (x k : Nat) : lb x k < 1073741824 := Nat.mod_lt _ (by decide)
def lcm_ (f : Nat → Int64) : Nat → Nat
  | 0 => 0
  | m + 1 => if f m = 0 then lcm_ f m else m + 1
theorem e_limbs (f : Nat → Int64) : ∀ m, m ≤ 3 → lpF (mX1_limbsOf_s3 3 f) (nI m) = some (nI (lcm_ f m)) := by
  intro m
  induction m with
  | zero =>
    intro _
    refine lp_stop ?_
    unfold mX1_limbsOf_s3
    rw [if_pos (by decide)]
    rfl
  | succ m ih =>
    intro hm
    have e1 : nI (m + 1) - 1 = nI m := by rw [show (1 : Int32) = nI 1 from rfl, i_sub (by omega) (by omega), Nat.add_sub_cancel]
    have e2 : nI (m + 1) + (-1) = nI m := by rw [← e1]; exact (Int32.sub_eq_add_neg (nI (m + 1)) 1).symm
    have hs : mX1_limbsOf_s3 3 f (nI (m + 1)) = if f m = 0 then some (.inr (nI m)) else some (.inl (nI (m + 1))) := by
      unfold mX1_limbsOf_s3
      rw [if_neg (nI_nle (by omega) (by omega)), e1, e2, e_atN_ (by decide) f (by omega), bs]
      by_cases h : f m = 0
      · rw [if_pos ((z_cmp0 _ _).mpr h), if_pos h]
      · rw [if_neg (fun q => h ((z_cmp0 _ _).mp q)), if_neg h]
    show _ = some (nI (if f m = 0 then lcm_ f m else m + 1))
    by_cases h : f m = 0
    · rw [if_pos h] at hs ⊢
      rw [lp_go hs]
      exact ih (by omega)
    · rw [if_neg h] at hs ⊢
      exact lp_stop hs
theorem lcm_lc {f : Nat → Int64} {x : Nat} (h : ∀ k, k < 3 → f k = lN (lb x k)) (hx : x < 1073741824 ^ 3) : lcm_ f 3 = lc x := by
  have q : ∀ k, k < 3 → (f k = 0 ↔ lb x k = 0) := fun k hk => by
    rw [h k hk]
    constructor
    · intro e; exact lN_inj (by have := lb_lt x k; omega) (by decide) e
    · intro e; rw [e]; rfl
  have e0 : lb x 0 = x % 1073741824 := by unfold lb; rw [Nat.pow_zero, Nat.div_one]
  have e1 : lb x 1 = x / 1073741824 % 1073741824 := by unfold lb; rw [Nat.pow_one]
  have e2 : lb x 2 = x / 1152921504606846976 % 1073741824 := rfl
  have hx' : x < 1237940039285380274899124224 := hx
  show (if f 2 = 0 then (if f 1 = 0 then (if f 0 = 0 then 0 else 1) else 2) else 3) = _
  unfold lc
  rw [show 1073741824 * 1073741824 = 1152921504606846976 from rfl]
  by_cases c2 : lb x 2 = 0
  · rw [if_pos ((q 2 (by decide)).mpr c2)]
    rw [e2] at c2
    by_cases c1 : lb x 1 = 0
    · rw [if_pos ((q 1 (by decide)).mpr c1)]
      rw [e1] at c1
      by_cases c0 : lb x 0 = 0
      · rw [if_pos ((q 0 (by decide)).mpr c0)]
        rw [e0] at c0
        rw [if_pos (by omega)]
      · rw [if_neg (fun z => c0 ((q 0 (by decide)).mp z))]
        rw [e0] at c0
        rw [if_neg (by omega), if_pos (by omega)]
    · rw [if_neg (fun z => c1 ((q 1 (by decide)).mp z))]
      rw [e1] at c1
      rw [if_neg (by omega), if_neg (by omega), if_pos (by omega)]
  · rw [if_neg (fun z => c2 ((q 2 (by decide)).mp z))]
    rw [e2] at c2
    rw [if_neg (by omega), if_neg (by omega), if_neg (by omega)]
theorem e_limbsOf {f : Nat → Int64} {x : Nat} (h : ∀ k, k < 3 → f k = lN (lb x k)) (hx : x < 1073741824 ^ 3) : mX1_limbsOf 3 f = some (nI (lc x)) := by
  unfold mX1_limbsOf
  rw [show Int32.ofNat 3 = nI 3 from rfl, e_limbs f 3 (by decide), lcm_lc h hx]
  rfl
theorem lc_le (x : Nat) : lc x ≤ 3 := by
  unfold lc
  repeat' split
  all_goals decide
theorem lc_0 (x : Nat) : lc x = 0 ↔ x = 0 := by
  unfold lc
  constructor
  · intro h
    by_cases c : x = 0
    · exact c
    · rw [if_neg c] at h
      repeat' split at h
      all_goals cases h
  · intro h; rw [if_pos h]
theorem e_signOf {u v : KS} (h : FR u v) : ∃ x y : Nat, (gI v 0 = 0 ∧ gR v 5 0 = nI (lc x) ∧ gR v 5 1 = nI (lc y)) ∧ (∀ k, k < 3 → gA u 2 k = lN (lb x k) ∧ gA u 3 k = lN (lb y k) ∧ gR v 4 k = nI (lb x k) ∧ gR v 4 (12 + k) = nI (lb y k)) ∧ mX5_signOf u 0 = some (if lc x = 0 then 0 else 1) ∧ mX5_signOf u 1 = some (nI (lc x)) ∧ mX5_signOf u 2 = some (nI (lc y)) := by
  obtain ⟨h0, x, y, ⟨hx, hy⟩, hk, hw0, hw1⟩ := h
  have ex := e_limbsOf (f := gA u 2) (fun k h => (hk k h).1) hx
  have ey := e_limbsOf (f := gA u 3) (fun k h => (hk k h).2.1) hy
  have := lc_le x
  refine ⟨x, y, ⟨h0, hw0, hw1⟩, hk, ?_, ?_, ?_⟩
  · unfold mX5_signOf
    rw [ex, bs, if_pos rfl]
    by_cases c : lc x = 0
    · rw [c, if_pos rfl, if_pos (by decide)]
    · rw [if_neg (nI_nle (by omega) (by omega)), if_neg c]
  · unfold mX5_signOf
    rw [ex, bs, if_neg (by decide), if_pos rfl]
  · unfold mX5_signOf
    rw [ex, bs, if_neg (by decide), if_neg (by decide), ey]
    rfl
