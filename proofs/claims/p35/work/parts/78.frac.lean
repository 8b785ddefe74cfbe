/-! the class alone: sign, limb, and the law's value, over, is -/
section FRC
variable {u : KS} {x y : Nat}
theorem fx_sign (h : FX u x y) : mX5_signOf u 0 = some (if lc x = 0 then 0 else 1) ∧ mX5_signOf u 1 = some (nI (lc x)) ∧ mX5_signOf u 2 = some (nI (lc y)) := by
  obtain ⟨⟨hx, hy⟩, hk⟩ := h
  have ex := e_limbsOf (f := gA u 2) (fun k h => (hk k h).1) hx
  have ey := e_limbsOf (f := gA u 3) (fun k h => (hk k h).2) hy
  have := lc_le x
  refine ⟨?_, ?_, ?_⟩
  · unfold mX5_signOf
    rw [ex, bs, if_pos rfl]
    by_cases c : lc x = 0
    · rw [c, if_pos rfl, if_pos (by decide)]
    · rw [if_neg (nI_nle (by omega) (by omega)), if_neg c]
  · unfold mX5_signOf
    rw [ex, bs, if_neg (by decide), if_pos rfl]
  · unfold mX5_signOf
    rw [ex, bs, if_neg (by decide), if_neg (by decide), ey]
    rfl
theorem s_sign0 (h : FX u x y) : mX5_sign u 0 = some (if x = 0 then 0 else 1, u) := by
  unfold mX5_sign
  rw [if_neg (by decide), if_pos (by decide), (fx_sign h).1, bs]
  by_cases c : x = 0
  · rw [if_pos c, if_pos ((lc_0 x).mpr c)]
  · rw [if_neg c, if_neg (fun z => c ((lc_0 x).mp z))]
/-- which number: 0 above, 1 below -/
def wh (x y j : Nat) : Nat := if j = 0 then x else y
theorem s_sign12 (h : FX u x y) {j : Nat} (hj : j < 2) : mX5_sign u (1 + nI j) = some (nI (lc (wh x y j)), u) := by
  unfold mX5_sign
  rcases (show j = 0 ∨ j = 1 by omega) with q | q <;> subst q
  · rw [show (1 + nI 0 : Int32) = 1 from rfl, if_neg (by decide), if_pos (by decide), (fx_sign h).2.1, bs]; rfl
  · rw [show (1 + nI 1 : Int32) = 2 from rfl, if_neg (by decide), if_pos (by decide), (fx_sign h).2.2, bs]; rfl
theorem s_limb (h : FX u x y) {j k : Nat} (hj : j < 2) (hk : k < lc (wh x y j)) : mX5_limb u (nI j) (nI k) = some (nI (lb (wh x y j) k), u) := by
  have hlc := lc_le (wh x y j)
  have hlb := lb_lt (wh x y j) k
  have hA := h.2 k (by omega)
  have zj : (nI j).toInt = (j : Int) := z_nN (by omega)
  have zk : (nI k).toInt = (k : Int) := z_nN (by omega)
  have hs : mX5_signOf u (nI j + 1) = some (nI (lc (wh x y j))) := by
    rcases (show j = 0 ∨ j = 1 by omega) with q | q <;> subst q
    · exact (fx_sign h).2.1
    · exact (fx_sign h).2.2
  unfold mX5_limb
  rw [if_neg (by (simp only [z_lt, z_le, z_gt, z_ge, z_eq, zm1, zm2, Int32.reduceToInt] at *; omega)), if_neg (by (simp only [z_lt, z_le, z_gt, z_ge, z_eq, zm1, zm2, Int32.reduceToInt] at *; omega)), if_pos (by (simp only [z_lt, z_le, z_gt, z_ge, z_eq, zm1, zm2, Int32.reduceToInt] at *; omega)), hs, bs, if_pos (nI_lt hk (by omega))]
  have e1 : mX1_limbOf u (nI j) (nI k) = some (nI (lb (wh x y j) k)) := by
    unfold mX1_limbOf
    rcases (show j = 0 ∨ j = 1 by omega) with q | q <;> subst q
    · rw [if_pos (show nI 0 = (0 : Int32) from rfl), e_atN_ (by decide) _ (by omega), bs, hA.1]
      show some ((lN (lb x k)).toInt32) = _
      rw [lN_i32 (show lb x k < 2147483648 by have := lb_lt x k; omega)]
      rfl
    · rw [if_neg (show ¬ nI 1 = (0 : Int32) by decide), e_atN_ (by decide) _ (by omega), bs, hA.2]
      show some ((lN (lb y k)).toInt32) = _
      rw [lN_i32 (show lb y k < 2147483648 by have := lb_lt y k; omega)]
      rfl
  rw [e1, bs]
/-- from the top down: x's limbs from k on -/
theorem lb_dn (x k : Nat) : x / 1073741824 ^ k = x / 1073741824 ^ (k + 1) * 1073741824 + lb x k := by
  unfold lb
  rw [Bs, ← Nat.div_div_eq_div_mul]
  omega
theorem lc_top (x : Nat) (hx : x < 1073741824 ^ 3) : x / 1073741824 ^ lc x = 0 := by
  unfold lc
  refine Nat.div_eq_of_lt ?_
  by_cases c : x = 0
  · rw [if_pos c, c]; decide
  · rw [if_neg c]
    by_cases c1 : x < 1073741824
    · rw [if_pos c1]; simpa using c1
    · rw [if_neg c1]
      by_cases c2 : x < 1073741824 * 1073741824
      · rw [if_pos c2]; exact c2
      · rw [if_neg c2]; exact hx
theorem lN_shl30 (a : Nat) : (lN a <<< ((30 : Int32).toInt64 &&& 63)) = lN (a * 1073741824) := by
  have h30 : (((30 : Int32).toInt64 &&& 63).toBitVec.smod 64).toNat = 30 := by decide
  refine Int64.toBitVec_inj.mp ?_
  have e : (lN a <<< ((30 : Int32).toInt64 &&& 63)).toBitVec = (lN a).toBitVec <<< (((30 : Int32).toInt64 &&& 63).toBitVec.smod 64).toNat := rfl
  have e3 : (lN a).toBitVec = BitVec.ofNat 64 a := rfl
  have e4 : (lN (a * 1073741824)).toBitVec = BitVec.ofNat 64 (a * 1073741824) := rfl
  have p30 : (2 : Nat) ^ 30 = 1073741824 := by decide
  rw [e, h30, e3, e4]
  refine BitVec.eq_of_toNat_eq ?_
  rw [BitVec.toNat_shiftLeft, BitVec.toNat_ofNat, BitVec.toNat_ofNat, Nat.shiftLeft_eq, Nat.mul_mod, Nat.mod_mod, ← Nat.mul_mod, p30]
theorem s_value (h : FX u x y) {j : Nat} (hj : j < 2) (hv : wh x y j < 9223372036854775808) : mL_value u (nI j) = some (lN (wh x y j), u) := by
  have hlc := lc_le (wh x y j)
  have hz : wh x y j < 1073741824 ^ 3 := Nat.lt_of_lt_of_le hv (by decide)
  have key : ∀ n, n ≤ lc (wh x y j) → lpF (mL_value_s13 (nI j)) (lN (wh x y j / 1073741824 ^ n), nI n - 1, u) = some (lN (wh x y j), u) := by
    intro n
    induction n with
    | zero =>
      intro _
      refine lp_stop ?_
      unfold mL_value_s13
      dsimp only
      rw [if_pos (by decide), Nat.pow_zero, Nat.div_one]
    | succ n ih =>
      intro hn
      have e1 : nI (n + 1) - 1 = nI n := nI_pred n
      have st : mL_value_s13 (nI j) (lN (wh x y j / 1073741824 ^ (n + 1)), nI (n + 1) - 1, u) = some (.inr (lN (wh x y j / 1073741824 ^ n), nI n - 1, u)) := by
        unfold mL_value_s13
        dsimp only
        rw [e1, if_neg (nI_pos (by omega)), s_limb h hj (by omega), bs]
        dsimp only
        have hlb := lb_lt (wh x y j) n
        rw [lN_shl30, nI_i64 (by omega), lN_add, ← lb_dn, show nI n + (-1) = nI n - 1 from by rw [Int32.sub_eq_add_neg]]
      rw [lp_go st]
      exact ih (by omega)
  have k0 := key (lc (wh x y j)) (Nat.le_refl _)
  rw [lc_top _ hz] at k0
  unfold mL_value
  rw [s_sign12 h hj, bs]
  dsimp only
  have k0' : lpF (mL_value_s13 (nI j)) (0, nI (lc (wh x y j)) - 1, u) = some (lN (wh x y j), u) := k0
  rw [k0', bs]
theorem s_over (h : FX u x y) {j : Nat} (hj : j < 2) : mL_over u (nI j) 998244353 = some (lN (wh x y j % 998244353), u) := by
  have hlc := lc_le (wh x y j)
  have hz : wh x y j < 1073741824 ^ 3 := by
    unfold wh
    split
    · exact h.1.1
    · exact h.1.2
  have key : ∀ n, n ≤ lc (wh x y j) → lpF (mL_over_s14 (nI j) 998244353) (lN (wh x y j / 1073741824 ^ n % 998244353), nI n - 1, u) = some (lN (wh x y j % 998244353), u) := by
    intro n
    induction n with
    | zero =>
      intro _
      refine lp_stop ?_
      unfold mL_over_s14
      dsimp only
      rw [if_pos (by decide), Nat.pow_zero, Nat.div_one]
    | succ n ih =>
      intro hn
      have e1 : nI (n + 1) - 1 = nI n := nI_pred n
      have st : mL_over_s14 (nI j) 998244353 (lN (wh x y j / 1073741824 ^ (n + 1) % 998244353), nI (n + 1) - 1, u) = some (.inr (lN (wh x y j / 1073741824 ^ n % 998244353), nI n - 1, u)) := by
        have hlb := lb_lt (wh x y j) n
        have hr : wh x y j / 1073741824 ^ (n + 1) % 998244353 < 998244353 := Nat.mod_lt _ (by decide)
        have ed : (wh x y j / 1073741824 ^ (n + 1) % 998244353 * 1073741824 + lb (wh x y j) n) % 998244353 = wh x y j / 1073741824 ^ n % 998244353 := by
          rw [lb_dn (wh x y j) n]
          omega
        unfold mL_over_s14
        dsimp only
        rw [e1, if_neg (nI_pos (by omega)), s_limb h hj (by omega), bs]
        dsimp only
        rw [gd_t (by decide), nI_i64 (by omega), show (1073741824 : Int64) = lN 1073741824 from rfl, show (998244353 : Int64) = lN 998244353 from rfl, lN_mul, lN_add, l_rem (by omega) (by omega), ed, show nI n + (-1) = nI n - 1 from by rw [Int32.sub_eq_add_neg]]
      rw [lp_go st]
      exact ih (by omega)
  have k0 := key (lc (wh x y j)) (Nat.le_refl _)
  rw [lc_top _ hz] at k0
  unfold mL_over
  rw [s_sign12 h hj, bs]
  dsimp only
  have k0' : lpF (mL_over_s14 (nI j) 998244353) (0, nI (lc (wh x y j)) - 1, u) = some (lN (wh x y j % 998244353), u) := k0
  rw [k0', bs]
/-- one, in lowest terms -/
theorem s_is1 (h : FX u 1 1) : mL_is u 1 1 = some (1, u) := by
  have d0 : mL_divisor 1 1 = some 1 := by
    have s0 : mL_divisor_s6 (1, 1) = some (.inr (1, 0)) := by
      unfold mL_divisor_s6
      dsimp only
      rw [if_neg (by decide), gd_t (by decide)]
      rfl
    have s1 : mL_divisor_s6 (1, 0) = some (.inl 1) := by
      unfold mL_divisor_s6
      dsimp only
      rw [if_pos (by decide)]
    have e : lpF mL_divisor_s6 (1, 1) = some 1 := by rw [lp_go s0, lp_stop s1]
    unfold mL_divisor
    rw [e, bs]
  have v0 : mL_value u 0 = some (1, u) := s_value h (j := 0) (by decide) (by decide)
  have v1 : mL_value u 1 = some (1, u) := s_value h (j := 1) (by decide) (by decide)
  unfold mL_is
  rw [d0, bs, v0, bs, gd_t (by decide), gd_t (show lg_cmp ((1 : Int64), u).1 (1 / 1) = 0 from (by decide : lg_cmp (1 : Int64) (1 / 1) = 0)), v1, bs, gd_t (by decide), gd_t (show lg_cmp ((1 : Int64), u).1 (1 / 1) = 0 from (by decide : lg_cmp (1 : Int64) (1 / 1) = 0))]
end FRC
