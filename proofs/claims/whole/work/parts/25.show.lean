/-! status, count -/
theorem lm_status : LM_status Rel := by
  intro u k0 k1 v a1 hR
  by_cases c : 0 ≤ a1.toInt ∧ a1.toInt ≤ 2
  · have hR' := hR
    obtain ⟨L, K, P, hK, h0, h1, hf, hF, hC⟩ := hR
    refine ⟨gR u 0 a1.toInt.toNat, u, v, ?_, ?_, hR', rfl⟩
    · unfold mX5_status
      rw [if_neg (by (simp only [z_lt, z_le, z_gt, z_ge, z_eq, zm1, zm2, Int32.reduceToInt] at *; omega)), if_pos (by (simp only [z_lt, z_le, z_gt, z_ge, z_eq, zm1, zm2, Int32.reduceToInt] at *; omega)), gd_t (i_inb' (by omega) (by omega)), z_cl]
    · unfold mX6_status
      rw [e_inc a1 0 2 (l := 0) (h := 2) rfl rfl, if_pos c, bs, if_neg (by decide), gd_t (i_inb' (by omega) (by omega)), z_cl, hf a1.toInt.toNat (by omega)]
  · refine lm_b hR (j := 0) (by decide) (-1) ?_ ?_
    · unfold mX5_status
      simp only [e_bad5, bs]
      repeat' split
      all_goals first | rfl | (exfalso; (simp only [z_lt, z_le, z_gt, z_ge, z_eq, zm1, zm2, Int32.reduceToInt] at *; omega))
    · unfold mX6_status
      rw [e_inc a1 0 2 (l := 0) (h := 2) rfl rfl, if_neg c, bs, if_pos rfl, show (0 : Int32) = nI 0 from rfl, e_ref6 v 0 (by decide)]
      rfl
def fcn (b : Nat → Int32) (x : Int32) : Int32 := fd (fun k x => if b (15 + k) = -1 then x else x + 1) 4 x
theorem e_fcount5 {u : KS} {b : Nat → Int32} (h : Km u b) : mX3_faultCount u = some (fcn b 0) := by
  unfold mX3_faultCount
  have e := lp_fd0 (S := mX3_faultCount_s13 u 4) (fun k (x : Int32) => (x, nI k)) (fun k x => if b (15 + k) = -1 then x else x + 1) id 4 0
    (fun k x hk => by
      unfold mX3_faultCount_s13
      dsimp only
      rw [if_neg (show ¬ (4 : Int32) ≤ nI k from nI_ge hk (by decide)), gd_t (i_k hk (by decide)), i_cl (by omega), (h k hk).1, i_s]
      split <;> rfl)
    (fun x => by
      unfold mX3_faultCount_s13
      dsimp only
      rw [if_pos (show (4 : Int32) ≤ nI 4 from Int32.le_refl _)]
      rfl)
  exact (congrArg (fun o => Option.bind o fun e => some e) e).trans rfl
theorem e_fcount6 (v : KS) : mX6_faults v = some (fcn (gR v 0) 0) := by
  unfold mX6_faults
  have e := lp_fd0 (S := mX6_faults_s4 v) (fun k (x : Int32) => (x, nI k)) (fun k x => if gR v 0 (15 + k) = -1 then x else x + 1) id 4 0
    (fun k x hk => by
      unfold mX6_faults_s4
      dsimp only
      have e1 : (15 : Int32) + nI k = nI (15 + k) := i_add 15 k
      rw [if_neg (show ¬ (4 : Int32) ≤ nI k from nI_ge hk (by decide)), e1, gd_t (i_k (by omega) (by decide)), i_cl (by omega), i_s, Int32.add_zero]
      split <;> rfl)
    (fun x => by
      unfold mX6_faults_s4
      dsimp only
      rw [if_pos (show (4 : Int32) ≤ nI 4 from Int32.le_refl _)]
      rfl)
  exact (congrArg (fun o => Option.bind o fun e => some e) e).trans rfl
theorem z_is {a : Int32} {n : Nat} (hn : n < 2147483648) (h : a.toInt = (n : Int)) : a = nI n := z_nat h
theorem lm_count : LM_count Rel := by
  intro u k0 k1 v a1 hR
  have hR' := hR
  obtain ⟨L, K, P, ⟨hT, hS, hp, hm, hl, hq⟩, h0, h1, hf, hF, hC⟩ := hR
  by_cases c : 0 ≤ a1.toInt ∧ a1.toInt ≤ 3
  · have g5 : mX5_count u a1 = (mX3_countOf u a1).bind fun r => some (r, u) := by
      unfold mX5_count
      rw [if_neg (by (simp only [z_lt, z_le, z_gt, z_ge, z_eq, zm1, zm2, Int32.reduceToInt] at *; omega)), if_pos (by (simp only [z_lt, z_le, z_gt, z_ge, z_eq, zm1, zm2, Int32.reduceToInt] at *; omega))]
    rcases (show a1.toInt = 0 ∨ a1.toInt = 1 ∨ a1.toInt = 2 ∨ a1.toInt = 3 by omega) with h | h | h | h
    · have ha : a1 = 0 := z_is (n := 0) (by decide) h
      subst ha
      exact ⟨nI L, u, v, by rw [g5, ← hT.2.1]; rfl, by rw [← hT.2.2.1]; rfl, hR', rfl⟩
    · have ha : a1 = 1 := z_is (n := 1) (by decide) h
      subst ha
      exact ⟨nI K, u, v, by rw [g5, ← hl.2.1]; rfl, by rw [← hl.2.2.1]; rfl, hR', rfl⟩
    · have ha : a1 = 2 := z_is (n := 2) (by decide) h
      subst ha
      exact ⟨nI P, u, v, by rw [g5, ← hq.2.1]; rfl, by rw [← hq.2.2.1]; rfl, hR', rfl⟩
    · have ha : a1 = 3 := z_is (n := 3) (by decide) h
      subst ha
      refine ⟨fcn (gR v 0) 0, u, v, ?_, ?_, hR', rfl⟩
      · rw [g5]
        unfold mX3_countOf
        rw [if_neg (by decide), if_neg (by decide), if_neg (by decide), e_fcount5 hm]
        rfl
      · unfold mX6_count
        rw [e_inc 3 0 2 (l := 0) (h := 2) rfl rfl, if_neg (by decide), bs, if_pos rfl, if_pos rfl, e_fcount6]
        rfl
  · refine lm_b hR' (j := 0) (by decide) (-2) ?_ ?_
    · unfold mX5_count
      simp only [e_bad5, bs]
      by_cases h2 : a1 < 0
      · rw [if_pos h2]
      · rw [if_neg h2, if_neg (by (simp only [z_lt, z_le, z_gt, z_ge, z_eq, zm1, zm2, Int32.reduceToInt] at *; omega))]
    · unfold mX6_count
      have h3 : ¬ a1 = 3 := fun q => c (by rw [q]; decide)
      rw [e_inc a1 0 2 (l := 0) (h := 2) rfl rfl, if_neg (by omega), bs, if_pos rfl, if_neg h3, e_bad6]
      rfl
/-! limbs -/
theorem lN_inj {a b : Nat} (ha : a < 9223372036854775808) (hb : b < 9223372036854775808) (h : lN a = lN b) : a = b := by
  have h2 := congrArg Int64.toInt h
  rw [zl_lN, zl_lN] at h2
  omega
theorem lN_i32 {a : Nat} (ha : a < 2147483648) : (lN a).toInt32 = nI a := by
  refine z_inj ?_
  rw [zl_l2i, zl_lN, z_nN ha]
  omega
theorem nI_i64 {a : Nat} (ha : a < 2147483648) : (nI a).toInt64 = lN a := nI_l ha
theorem lb_lt (x k : Nat) : lb x k < 1073741824 := Nat.mod_lt _ (by decide)
def lcm_ (f : Nat → Int64) : Nat → Nat
  | 0 => 0
  | m + 1 => if f m = 0 then lcm_ f m else m + 1
theorem e_limbs (f : Nat → Int64) : ∀ m, m ≤ 3 → lpF (mX1_limbsOf_s3 3 f) (nI m) = some (nI (lcm_ f m)) := by
  intro m
  induction m with
  | zero =>
    intro _
    refine lp_stop ?_
    unfold mX1_limbsOf_s3
    rw [if_pos (by decide)]
    rfl
  | succ m ih =>
    intro hm
    have e1 : nI (m + 1) - 1 = nI m := by rw [show (1 : Int32) = nI 1 from rfl, i_sub (by omega) (by omega), Nat.add_sub_cancel]
    have e2 : nI (m + 1) + (-1) = nI m := by rw [← e1]; exact (Int32.sub_eq_add_neg (nI (m + 1)) 1).symm
    have hs : mX1_limbsOf_s3 3 f (nI (m + 1)) = if f m = 0 then some (.inr (nI m)) else some (.inl (nI (m + 1))) := by
      unfold mX1_limbsOf_s3
      rw [if_neg (nI_nle (by omega) (by omega)), e1, e2, e_atN_ (by decide) f (by omega), bs]
      by_cases h : f m = 0
      · rw [if_pos ((z_cmp0 _ _).mpr h), if_pos h]
      · rw [if_neg (fun q => h ((z_cmp0 _ _).mp q)), if_neg h]
    show _ = some (nI (if f m = 0 then lcm_ f m else m + 1))
    by_cases h : f m = 0
    · rw [if_pos h] at hs ⊢
      rw [lp_go hs]
      exact ih (by omega)
    · rw [if_neg h] at hs ⊢
      exact lp_stop hs
theorem lcm_lc {f : Nat → Int64} {x : Nat} (h : ∀ k, k < 3 → f k = lN (lb x k)) (hx : x < 1073741824 ^ 3) : lcm_ f 3 = lc x := by
  have q : ∀ k, k < 3 → (f k = 0 ↔ lb x k = 0) := fun k hk => by
    rw [h k hk]
    constructor
    · intro e; exact lN_inj (by have := lb_lt x k; omega) (by decide) e
    · intro e; rw [e]; rfl
  have e0 : lb x 0 = x % 1073741824 := by unfold lb; rw [Nat.pow_zero, Nat.div_one]
  have e1 : lb x 1 = x / 1073741824 % 1073741824 := by unfold lb; rw [Nat.pow_one]
  have e2 : lb x 2 = x / 1152921504606846976 % 1073741824 := rfl
  have hx' : x < 1237940039285380274899124224 := hx
  show (if f 2 = 0 then (if f 1 = 0 then (if f 0 = 0 then 0 else 1) else 2) else 3) = _
  unfold lc
  rw [show 1073741824 * 1073741824 = 1152921504606846976 from rfl]
  by_cases c2 : lb x 2 = 0
  · rw [if_pos ((q 2 (by decide)).mpr c2)]
    rw [e2] at c2
    by_cases c1 : lb x 1 = 0
    · rw [if_pos ((q 1 (by decide)).mpr c1)]
      rw [e1] at c1
      by_cases c0 : lb x 0 = 0
      · rw [if_pos ((q 0 (by decide)).mpr c0)]
        rw [e0] at c0
        rw [if_pos (by omega)]
      · rw [if_neg (fun z => c0 ((q 0 (by decide)).mp z))]
        rw [e0] at c0
        rw [if_neg (by omega), if_pos (by omega)]
    · rw [if_neg (fun z => c1 ((q 1 (by decide)).mp z))]
      rw [e1] at c1
      rw [if_neg (by omega), if_neg (by omega), if_pos (by omega)]
  · rw [if_neg (fun z => c2 ((q 2 (by decide)).mp z))]
    rw [e2] at c2
    rw [if_neg (by omega), if_neg (by omega), if_neg (by omega)]
theorem e_limbsOf {f : Nat → Int64} {x : Nat} (h : ∀ k, k < 3 → f k = lN (lb x k)) (hx : x < 1073741824 ^ 3) : mX1_limbsOf 3 f = some (nI (lc x)) := by
  unfold mX1_limbsOf
  rw [show Int32.ofNat 3 = nI 3 from rfl, e_limbs f 3 (by decide), lcm_lc h hx]
  rfl
theorem lc_le (x : Nat) : lc x ≤ 3 := by
  unfold lc
  repeat' split
  all_goals decide
theorem lc_0 (x : Nat) : lc x = 0 ↔ x = 0 := by
  unfold lc
  constructor
  · intro h
    by_cases c : x = 0
    · exact c
    · rw [if_neg c] at h
      repeat' split at h
      all_goals cases h
  · intro h; rw [if_pos h]
theorem e_signOf {u v : KS} (h : FR u v) : ∃ x y : Nat, (gI v 0 = 0 ∧ gR v 5 0 = nI (lc x) ∧ gR v 5 1 = nI (lc y)) ∧ (∀ k, k < 3 → gA u 2 k = lN (lb x k) ∧ gA u 3 k = lN (lb y k) ∧ gR v 4 k = nI (lb x k) ∧ gR v 4 (12 + k) = nI (lb y k)) ∧ mX5_signOf u 0 = some (if lc x = 0 then 0 else 1) ∧ mX5_signOf u 1 = some (nI (lc x)) ∧ mX5_signOf u 2 = some (nI (lc y)) := by
  obtain ⟨h0, x, y, ⟨hx, hy⟩, hk, hw0, hw1⟩ := h
  have ex := e_limbsOf (f := gA u 2) (fun k h => (hk k h).1) hx
  have ey := e_limbsOf (f := gA u 3) (fun k h => (hk k h).2.1) hy
  have := lc_le x
  refine ⟨x, y, ⟨h0, hw0, hw1⟩, hk, ?_, ?_, ?_⟩
  · unfold mX5_signOf
    rw [ex, bs, if_pos rfl]
    by_cases c : lc x = 0
    · rw [c, if_pos rfl, if_pos (by decide)]
    · rw [if_neg (nI_nle (by omega) (by omega)), if_neg c]
  · unfold mX5_signOf
    rw [ex, bs, if_neg (by decide), if_pos rfl]
  · unfold mX5_signOf
    rw [ex, bs, if_neg (by decide), if_neg (by decide), ey]
    rfl
theorem e_signNow {v : KS} {x : Nat} (h0 : gI v 0 = 0) (hw0 : gR v 5 0 = nI (lc x)) : mX6_signNow v = some (if lc x = 0 then 0 else 1) := by
  have := lc_le x
  unfold mX6_signNow
  rw [c_0, hw0, h0]
  by_cases c : lc x = 0
  · rw [c]
    exact if_pos rfl
  · rw [if_neg (nI_ne0 (by omega) (by omega)), if_pos rfl, if_neg c]
theorem lm_sign : LM_sign Rel := by
  intro u k0 k1 v a1 hR
  have hR' := hR
  obtain ⟨L, K, P, hK, h1, h2, hf, hF, hC⟩ := hR
  obtain ⟨x, y, ⟨h0, hw0, hw1⟩, hk, s0, s1, s2⟩ := e_signOf hF
  by_cases c : 0 ≤ a1.toInt ∧ a1.toInt ≤ 2
  · have g5 : mX5_sign u a1 = (mX5_signOf u a1).bind fun r => some (r, u) := by
      unfold mX5_sign
      rw [if_neg (by (simp only [z_lt, z_le, z_gt, z_ge, z_eq, zm1, zm2, Int32.reduceToInt] at *; omega)), if_pos (by (simp only [z_lt, z_le, z_gt, z_ge, z_eq, zm1, zm2, Int32.reduceToInt] at *; omega))]
    rcases (show a1.toInt = 0 ∨ a1.toInt = 1 ∨ a1.toInt = 2 by omega) with h | h | h
    · have ha : a1 = 0 := z_is (n := 0) (by decide) h
      subst ha
      refine ⟨_, u, v, by rw [g5, s0]; rfl, ?_, hR', rfl⟩
      unfold mX6_sign
      rw [if_pos rfl, e_signNow h0 hw0]
      rfl
    · have ha : a1 = 1 := z_is (n := 1) (by decide) h
      subst ha
      refine ⟨_, u, v, by rw [g5, s1]; rfl, ?_, hR', rfl⟩
      unfold mX6_sign
      rw [if_neg (by decide), if_pos rfl, c_0, hw0]
    · have ha : a1 = 2 := z_is (n := 2) (by decide) h
      subst ha
      refine ⟨_, u, v, by rw [g5, s2]; rfl, ?_, hR', rfl⟩
      unfold mX6_sign
      rw [if_neg (by decide), if_neg (by decide), if_pos rfl, c_1, hw1]
  · refine lm_b hR' (j := 0) (by decide) (-2) ?_ ?_
    · unfold mX5_sign
      simp only [e_bad5, bs]
      by_cases h2 : a1 < 0
      · rw [if_pos h2]
      · rw [if_neg h2, if_neg (by (simp only [z_lt, z_le, z_gt, z_ge, z_eq, zm1, zm2, Int32.reduceToInt] at *; omega))]
    · unfold mX6_sign
      rw [if_neg (fun q => c (by rw [q]; decide)), if_neg (fun q => c (by rw [q]; decide)), if_neg (fun q => c (by rw [q]; decide)), e_bad6]
      rfl
