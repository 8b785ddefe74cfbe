/-! gone, in the class: rows of three limbs -/
def CH (f : Nat → Int64) (x : Nat) : Prop := ∀ k, k < 3 → f k = lN (lb x k)
theorem lb_mix (x y a b k : Nat) : lb (x * a + y * b) k = (lb x k * a + lb y k * b + (x % 1073741824 ^ k * a + y % 1073741824 ^ k * b) / 1073741824 ^ k) % 1073741824 ∧ (x % 1073741824 ^ (k + 1) * a + y % 1073741824 ^ (k + 1) * b) / 1073741824 ^ (k + 1) = (lb x k * a + lb y k * b + (x % 1073741824 ^ k * a + y % 1073741824 ^ k * b) / 1073741824 ^ k) / 1073741824 := by
  refine ⟨dgN (M := x / 1073741824 ^ (k + 1) * a + y / 1073741824 ^ (k + 1) * b) (Bp k) ?_, ?_⟩
  · have h := lb_mulp x k
    have h' := lb_mulp y k
    generalize x / 1073741824 ^ (k + 1) = q at *
    generalize lb x k = l at *
    generalize x % 1073741824 ^ k = t at *
    generalize y / 1073741824 ^ (k + 1) = q' at *
    generalize lb y k = l' at *
    generalize y % 1073741824 ^ k = t' at *
    generalize 1073741824 ^ k = P at *
    have e : l * a + l' * b + 1073741824 * (q * a + q' * b) = (l + 1073741824 * q) * a + (l' + 1073741824 * q') * b := by
      rw [Nat.add_mul, Nat.add_mul, Nat.mul_add, Nat.mul_assoc, Nat.mul_assoc]
      omega
    have e2 : P * ((l + 1073741824 * q) * a + (l' + 1073741824 * q') * b) = P * (l + 1073741824 * q) * a + P * (l' + 1073741824 * q') * b := by
      rw [Nat.mul_add, Nat.mul_assoc, Nat.mul_assoc]
    rw [h, h', e, e2, Nat.add_mul, Nat.add_mul]
    omega
  · rw [nd_s, nd_s, Bs, show (x % 1073741824 ^ k + 1073741824 ^ k * lb x k) * a + (y % 1073741824 ^ k + 1073741824 ^ k * lb y k) * b = x % 1073741824 ^ k * a + y % 1073741824 ^ k * b + 1073741824 ^ k * (lb x k * a + lb y k * b) by
      rw [Nat.mul_add, Nat.add_mul, Nat.add_mul, Nat.mul_assoc, Nat.mul_assoc]; omega]
    exact dgC (Bp k)
theorem mix_c {x y a b P : Nat} (hP : 0 < P) : (x % P * a + y % P * b) / P ≤ a + b := by
  refine Nat.div_le_of_le_mul ?_
  rw [Nat.mul_add]
  exact Nat.add_le_add (Nat.mul_le_mul_right a (Nat.le_of_lt (Nat.mod_lt x hP))) (Nat.mul_le_mul_right b (Nat.le_of_lt (Nat.mod_lt y hP)))
theorem e_mix {f g : Nat → Int64} {x y a b : Nat} (hf : CH f x) (hg : CH g y) (ha : a ≤ 20) (hb : b ≤ 20) : ∃ h, mX1_mix 3 f 3 g (nI a) (nI b) = some h ∧ CH h (x * a + y * b) := by
  obtain ⟨cy, hcy⟩ : ∃ cy : Nat → Nat, ∀ k, cy k = (x % 1073741824 ^ k * a + y % 1073741824 ^ k * b) / 1073741824 ^ k := ⟨_, fun _ => rfl⟩
  have cyl : ∀ k, cy k ≤ a + b := fun k => by rw [hcy]; exact mix_c (Bp k)
  have e := lp_fd (S := mX1_mix_s6 3 3 g (nI a) (nI b)) (fun k (z : Int64 × (Nat → Int64)) => (z.1, nI k, z.2)) (fun k z => (lN (cy (k + 1)), vp_updL z.2 (0 + k) (lN (lb (x * a + y * b) k)))) (fun z => z.2) 3 (lN (cy 0), f) (fun k z => z.1 = lN (cy k) ∧ ∀ j, k ≤ j → z.2 j = f j) ⟨rfl, fun j _ => rfl⟩
    (fun k z hk hz => ⟨rfl, fun j hj => by
      dsimp only
      rw [ul_no _ _ _ (by omega)]
      exact hz.2 j (by omega)⟩)
    (fun k z hk hz => by
      have hl := lb_lt x k
      have hl' := lb_lt y k
      have hcl := cyl k
      have hm : lb x k * a ≤ 1073741824 * 20 := Nat.mul_le_mul (Nat.le_of_lt hl) ha
      have hm' : lb y k * b ≤ 1073741824 * 20 := Nat.mul_le_mul (Nat.le_of_lt hl') hb
      obtain ⟨m1, m2⟩ := lb_mix x y a b k
      rw [← hcy, ← hcy] at m2
      rw [← hcy] at m1
      unfold mX1_mix_s6
      dsimp only
      rw [if_neg (show ¬ Int32.ofNat 3 ≤ nI k from nI_ge hk (by decide)), gd_t (i_k hk (by decide)), e_atN_ (by decide) _ hk, bs, gd_t (i_k hk (by decide)), i_cl (by omega), hz.2 k (Nat.le_refl _), hf k hk, hg k hk, hz.1, nI_l (by omega), nI_l (by omega), lN_mul, lN_mul, lN_add, lN_add, lsr30 (by omega), lmk30 (by omega), i_s, m1, m2, Nat.zero_add])
    (fun z _ => by
      unfold mX1_mix_s6
      dsimp only
      rw [if_pos (by decide)])
  have hz1 : ∀ n, (fd (fun k (z : Int64 × (Nat → Int64)) => (lN (cy (k + 1)), vp_updL z.2 (0 + k) (lN (lb (x * a + y * b) k)))) n (lN (cy 0), f)) = (lN (cy n), fd (fun k z => vp_updL z (0 + k) (lN (lb (x * a + y * b) k))) n f) := by
    intro n
    induction n with
    | zero => rfl
    | succ n ih => rw [fd_s, ih]; rfl
  rw [hz1] at e
  have c0 : cy 0 = 0 := by rw [hcy, Nat.pow_zero, Nat.mod_one, Nat.mod_one, Nat.zero_mul, Nat.zero_mul]
  rw [c0] at e
  have e' : lpF (mX1_mix_s6 3 3 g (nI a) (nI b)) (0, 0, f) = _ := e
  refine ⟨_, by
    unfold mX1_mix
    rw [e', bs], fun k hk => ?_⟩
  dsimp only
  rw [fd_upL 0 (fun k => lN (lb (x * a + y * b) k)), if_pos (by omega)]
  rfl
theorem e_mixs {f : Nat → Int64} {x a : Nat} (hf : CH f x) (ha : a ≤ 20) : ∃ h, mX1_mix_s 3 f (nI a) 0 = some h ∧ CH h (x * a) := by
  obtain ⟨cy, hcy⟩ : ∃ cy : Nat → Nat, ∀ k, cy k = x % 1073741824 ^ k * a / 1073741824 ^ k := ⟨_, fun _ => rfl⟩
  have cyl : ∀ k, cy k ≤ a := fun k => by rw [hcy]; exact div_le_c (Bp k)
  have e := lp_fd (S := mX1_mix_s_s6 3 (nI a) 0) (fun k (z : Int64 × (Nat → Int64)) => (z.1, nI k, z.2)) (fun k z => (lN (cy (k + 1)), vp_updL z.2 (0 + k) (lN (lb (x * a) k)))) (fun z => z.2) 3 (lN (cy 0), f) (fun k z => z.1 = lN (cy k) ∧ ∀ j, k ≤ j → z.2 j = f j) ⟨rfl, fun j _ => rfl⟩
    (fun k z hk hz => ⟨rfl, fun j hj => by
      dsimp only
      rw [ul_no _ _ _ (by omega)]
      exact hz.2 j (by omega)⟩)
    (fun k z hk hz => by
      have hl := lb_lt x k
      have hcl := cyl k
      have hm : lb x k * a ≤ 1073741824 * 20 := Nat.mul_le_mul (Nat.le_of_lt hl) ha
      obtain ⟨m1, m2⟩ := lb_mul x a k
      rw [← hcy, ← hcy] at m2
      rw [← hcy] at m1
      have e0 : ∀ y : Int64, y * (0 : Int32).toInt64 = 0 := fun y => Int64.mul_zero
      unfold mX1_mix_s_s6
      dsimp only
      rw [if_neg (show ¬ Int32.ofNat 3 ≤ nI k from nI_ge hk (by decide)), gd_t (i_k hk (by decide)), e_atN_ (by decide) _ hk, bs, gd_t (i_k hk (by decide)), i_cl (by omega), hz.2 k (Nat.le_refl _), hf k hk, hz.1, e0, l_add0, nI_l (by omega), lN_mul, lN_add, lsr30 (by omega), lmk30 (by omega), i_s, m1, m2, Nat.zero_add])
    (fun z _ => by
      unfold mX1_mix_s_s6
      dsimp only
      rw [if_pos (by decide)])
  have hz1 : ∀ n, (fd (fun k (z : Int64 × (Nat → Int64)) => (lN (cy (k + 1)), vp_updL z.2 (0 + k) (lN (lb (x * a) k)))) n (lN (cy 0), f)) = (lN (cy n), fd (fun k z => vp_updL z (0 + k) (lN (lb (x * a) k))) n f) := by
    intro n
    induction n with
    | zero => rfl
    | succ n ih => rw [fd_s, ih]; rfl
  rw [hz1] at e
  have c0 : cy 0 = 0 := by rw [hcy, Nat.pow_zero, Nat.mod_one, Nat.zero_mul]
  rw [c0] at e
  have e' : lpF (mX1_mix_s_s6 3 (nI a) 0) (0, 0, f) = _ := e
  refine ⟨_, by
    unfold mX1_mix_s
    rw [e', bs], fun k hk => ?_⟩
  dsimp only
  rw [fd_upL 0 (fun k => lN (lb (x * a) k)), if_pos (by omega)]
  rfl
/-! lowering by 2 and 5 -/
theorem lsl30 : ∀ r, r < 5 → lN r <<< ((30 : Int32).toInt64 &&& 63) = lN (r * 1073741824) := by decide +kernel
theorem x3_eq {x : Nat} (h : x < 1073741824 ^ 3) : lb x 0 = x % 1073741824 ∧ lb x 1 = x / 1073741824 % 1073741824 ∧ lb x 2 = x / 1152921504606846976 ∧ x < 1237940039285380274899124224 := by
  have p3 : (1073741824 : Nat) ^ 3 = 1237940039285380274899124224 := rfl
  rw [p3] at h
  refine ⟨?_, ?_, ?_, h⟩
  · unfold lb; rw [Nat.pow_zero, Nat.div_one]
  · unfold lb; rw [Nat.pow_one]
  · unfold lb
    rw [show (1073741824 : Nat) ^ 2 = 1152921504606846976 from rfl]
    omega
theorem dg3 {p a b c x q2 r2 q1 r1 q0 r0 : Nat} (hp : p = 2 ∨ p = 5) (hx : x = c + 1073741824 * b + 1152921504606846976 * a) (hb : b < 1073741824) (hc : c < 1073741824) (h2 : a = p * q2 + r2) (h2' : r2 < p) (h1 : r2 * 1073741824 + b = p * q1 + r1) (h1' : r1 < p) (h0 : r1 * 1073741824 + c = p * q0 + r0) (h0' : r0 < p) : x % p = r0 ∧ x / p = q0 + 1073741824 * q1 + 1152921504606846976 * q2 ∧ q1 < 1073741824 ∧ q0 < 1073741824 := by
  rcases hp with q | q <;> subst q
  · have e : x = 2 * (q0 + 1073741824 * q1 + 1152921504606846976 * q2) + r0 := by omega
    refine ⟨by omega, by omega, by omega, by omega⟩
  · have e : x = 5 * (q0 + 1073741824 * q1 + 1152921504606846976 * q2) + r0 := by omega
    refine ⟨by omega, by omega, by omega, by omega⟩
theorem dgs {q0 q1 q2 : Nat} (h0 : q0 < 1073741824) (h1 : q1 < 1073741824) : (q0 + 1073741824 * q1 + 1152921504606846976 * q2) % 1073741824 = q0 ∧ (q0 + 1073741824 * q1 + 1152921504606846976 * q2) / 1073741824 % 1073741824 = q1 ∧ (q0 + 1073741824 * q1 + 1152921504606846976 * q2) / 1152921504606846976 = q2 := by
  refine ⟨by omega, by omega, by omega⟩
theorem x3_dv {x p : Nat} (hp : p = 2 ∨ p = 5) (hx : x < 1073741824 ^ 3) : x % p = (((0 * 1073741824 + lb x 2) % p * 1073741824 + lb x 1) % p * 1073741824 + lb x 0) % p ∧ x / p = (((0 * 1073741824 + lb x 2) % p * 1073741824 + lb x 1) % p * 1073741824 + lb x 0) / p + 1073741824 * (((0 * 1073741824 + lb x 2) % p * 1073741824 + lb x 1) / p) + 1152921504606846976 * ((0 * 1073741824 + lb x 2) / p) ∧ ((0 * 1073741824 + lb x 2) % p * 1073741824 + lb x 1) / p < 1073741824 ∧ (((0 * 1073741824 + lb x 2) % p * 1073741824 + lb x 1) % p * 1073741824 + lb x 0) / p < 1073741824 := by
  obtain ⟨x0, x1, x2, hx⟩ := x3_eq hx
  have hp0 : 0 < p := by omega
  exact dg3 hp (by omega) (lb_lt x 1) (lb_lt x 0) (Nat.div_add_mod _ _).symm (Nat.mod_lt _ hp0) (Nat.div_add_mod _ _).symm (Nat.mod_lt _ hp0) (Nat.div_add_mod _ _).symm (Nat.mod_lt _ hp0)
theorem p_nz {p : Nat} (hp : p = 2 ∨ p = 5) : ¬ (nI p).toInt64 = (0 : Int64) := by
  rcases hp with q | q <;> subst q <;> decide
theorem e_rest {f : Nat → Int64} {x p : Nat} (hp : p = 2 ∨ p = 5) (hf : CH f x) (hx : x < 1073741824 ^ 3) : mX1_restOf 3 f (nI p) = some (lN (x % p)) := by
  obtain ⟨v1, v2, v3, v4⟩ := x3_dv hp hx
  have st : ∀ (k r : Nat), k < 3 → r < p → mX1_restOf_s8 3 f (nI p) (lN r, nI k) = some (.inr (lN ((r * 1073741824 + lb x k) % p), nI k + (-1))) := by
    intro k r hk hr
    have hl := lb_lt x k
    unfold mX1_restOf_s8
    dsimp only
    rw [if_neg (nI_pos (by omega)), if_neg (nI_nle (by omega) (by omega)), e_atN_ (by decide) _ hk, bs, gd_t (p_nz hp), hf k hk, lsl30 r (by omega), lN_add, nI_l (by omega), l_rem (by omega) (by omega)]
  have en : ∀ r : Nat, mX1_restOf_s8 3 f (nI p) (lN r, -1) = some (.inl (lN r)) := by
    intro r
    unfold mX1_restOf_s8
    dsimp only
    rw [if_pos (by decide)]
  have hp0 : 0 < p := by omega
  have m1 := Nat.mod_lt (0 * 1073741824 + lb x 2) hp0
  have m2 := Nat.mod_lt ((0 * 1073741824 + lb x 2) % p * 1073741824 + lb x 1) hp0
  have s2 : mX1_restOf_s8 3 f (nI p) (0, Int32.ofNat 3 - 1) = some (.inr (lN ((0 * 1073741824 + lb x 2) % p), nI 1)) := st 2 0 (by decide) hp0
  have s1 : mX1_restOf_s8 3 f (nI p) (lN ((0 * 1073741824 + lb x 2) % p), nI 1) = some (.inr (lN (((0 * 1073741824 + lb x 2) % p * 1073741824 + lb x 1) % p), nI 0)) := st 1 _ (by decide) m1
  have s0 : mX1_restOf_s8 3 f (nI p) (lN (((0 * 1073741824 + lb x 2) % p * 1073741824 + lb x 1) % p), nI 0) = some (.inr (lN ((((0 * 1073741824 + lb x 2) % p * 1073741824 + lb x 1) % p * 1073741824 + lb x 0) % p), -1)) := st 0 _ (by decide) m2
  have hl : lpF (mX1_restOf_s8 3 f (nI p)) (0, Int32.ofNat 3 - 1) = some (lN (x % p)) := by
    rw [lp_go s2, lp_go s1, lp_go s0, lp_stop (en _), v1]
  unfold mX1_restOf
  rw [hl, bs]
theorem e_divide {f : Nat → Int64} {x p : Nat} (hp : p = 2 ∨ p = 5) (hf : CH f x) (hx : x < 1073741824 ^ 3) : ∃ g, mX1_divide 3 f (nI p) = some g ∧ CH g (x / p) ∧ x / p < 1073741824 ^ 3 := by
  have hx' : x / p < 1073741824 ^ 3 := Nat.lt_of_le_of_lt (Nat.div_le_self _ _) hx
  obtain ⟨y0, y1, y2, hy⟩ := x3_eq hx'
  obtain ⟨v1, v2, v3, v4⟩ := x3_dv hp hx
  have st : ∀ (k r : Nat) (g : Nat → Int64), k < 3 → r < p → g k = lN (lb x k) → mX1_divide_s8 3 (nI p) (lN r, nI k, g) = some (.inr (lN ((r * 1073741824 + lb x k) % p), nI k + (-1), vp_updL g k (lN ((r * 1073741824 + lb x k) / p)))) := by
    intro k r g hk hr hg
    have hl := lb_lt x k
    unfold mX1_divide_s8
    dsimp only
    rw [if_neg (nI_pos (by omega)), if_neg (nI_nle (by omega) (by omega)), e_atN_ (by decide) _ hk, bs, gd_t (p_nz hp), hg, lsl30 r (by omega), lN_add, nI_l (by omega), l_rem (by omega) (by omega), l_div (by omega) (by omega), e_setN_ (by decide) _ _ hk, bs]
    have hn := p_nz hp
    rw [nI_l (by omega)] at hn
    exact gd_t hn
  have en : ∀ (r : Nat) (g : Nat → Int64), mX1_divide_s8 3 (nI p) (lN r, -1, g) = some (.inl g) := by
    intro r g
    unfold mX1_divide_s8
    dsimp only
    rw [if_pos (by decide)]
  have hp0 : 0 < p := by omega
  have m1 := Nat.mod_lt (0 * 1073741824 + lb x 2) hp0
  have m2 := Nat.mod_lt ((0 * 1073741824 + lb x 2) % p * 1073741824 + lb x 1) hp0
  have s2 : mX1_divide_s8 3 (nI p) (0, Int32.ofNat 3 - 1, f) = some (.inr (lN ((0 * 1073741824 + lb x 2) % p), nI 1, vp_updL f 2 (lN ((0 * 1073741824 + lb x 2) / p)))) := st 2 0 f (by decide) hp0 (hf 2 (by decide))
  generalize hF2 : vp_updL f 2 (lN ((0 * 1073741824 + lb x 2) / p)) = f2 at s2
  have s1 : mX1_divide_s8 3 (nI p) (lN ((0 * 1073741824 + lb x 2) % p), nI 1, f2) = some (.inr (lN (((0 * 1073741824 + lb x 2) % p * 1073741824 + lb x 1) % p), nI 0, vp_updL f2 1 (lN (((0 * 1073741824 + lb x 2) % p * 1073741824 + lb x 1) / p)))) := st 1 _ f2 (by decide) m1 (by rw [← hF2, ul_no _ _ _ (by decide)]; exact hf 1 (by decide))
  generalize hF1 : vp_updL f2 1 (lN (((0 * 1073741824 + lb x 2) % p * 1073741824 + lb x 1) / p)) = f1 at s1
  have s0 : mX1_divide_s8 3 (nI p) (lN (((0 * 1073741824 + lb x 2) % p * 1073741824 + lb x 1) % p), nI 0, f1) = some (.inr (lN ((((0 * 1073741824 + lb x 2) % p * 1073741824 + lb x 1) % p * 1073741824 + lb x 0) % p), -1, vp_updL f1 0 (lN ((((0 * 1073741824 + lb x 2) % p * 1073741824 + lb x 1) % p * 1073741824 + lb x 0) / p)))) := st 0 _ f1 (by decide) m2 (by rw [← hF1, ul_no _ _ _ (by decide), ← hF2, ul_no _ _ _ (by decide)]; exact hf 0 (by decide))
  refine ⟨vp_updL f1 0 (lN ((((0 * 1073741824 + lb x 2) % p * 1073741824 + lb x 1) % p * 1073741824 + lb x 0) / p)), ?_, fun k hk => ?_, hx'⟩
  · unfold mX1_divide
    have hl : lpF (mX1_divide_s8 3 (nI p)) (0, Int32.ofNat 3 - 1, f) = _ := (lp_go s2).trans ((lp_go s1).trans ((lp_go s0).trans (lp_stop (en _ _))))
    rw [hl, bs]
  · rcases (show k = 0 ∨ k = 1 ∨ k = 2 by omega) with q | q | q <;> subst q
    · rw [ul_is, y0, v2, (dgs v4 v3).1]
    · rw [ul_no _ _ _ (by decide), ← hF1, ul_is, y1, v2, (dgs v4 v3).2.1]
    · rw [ul_no _ _ _ (by decide), ← hF1, ul_no _ _ _ (by decide), ← hF2, ul_is, y2, v2, (dgs v4 v3).2.2]
def lowN (p : Nat) : Nat → Nat × Nat → Nat × Nat
  | 0, z => z
  | n + 1, z => if z.1 % p = 0 ∧ z.2 % p = 0 then lowN p n (z.1 / p, z.2 / p) else z
def AF (u u' : KS) : Prop := (∀ k, gI u' k = gI u k) ∧ gR u' = gR u ∧ gL u' = gL u ∧ (∀ k, k < 2 ∨ 7 ≤ k → gA u' k = gA u k) ∧ gO u' = gO u
theorem AF.rf (u : KS) : AF u u := ⟨fun _ => rfl, rfl, rfl, fun _ _ => rfl, rfl⟩
theorem AF.tr {u v w : KS} (h : AF u v) (g : AF v w) : AF u w := ⟨fun k => (g.1 k).trans (h.1 k), g.2.1.trans h.2.1, g.2.2.1.trans h.2.2.1, fun k hk => (g.2.2.2.1 k hk).trans (h.2.2.2.1 k hk), g.2.2.2.2.trans h.2.2.2.2⟩
theorem AF.A {u v : KS} (h : AF u v) {k : Nat} (hk : 2 ≤ k ∧ k < 7) (f : Nat → Int64) : AF u (sA v k f) := ⟨h.1, h.2.1, h.2.2.1, fun j hj => by rw [s_AA, if_neg (by omega)]; exact h.2.2.2.1 j hj, h.2.2.2.2⟩
theorem e_lower {p t : Nat} (hp : p = 2 ∨ p = 5) (ht : t ≤ 40) : ∀ n i (u : KS) (x y : Nat), i + n = t → x < 1073741824 ^ 3 → y < 1073741824 ^ 3 → CH (gA u 2) x → CH (gA u 3) y → ∃ u', ((lpF (mX1_lower_s2 (nI p) (nI t)) (nI i, u)).bind (oE (fun e2_0 => some e2_0) (fun e2_1 => some e2_1))) = some u' ∧ AF u u' ∧ CH (gA u' 2) (lowN p n (x, y)).1 ∧ CH (gA u' 3) (lowN p n (x, y)).2 ∧ (lowN p n (x, y)).1 < 1073741824 ^ 3 ∧ (lowN p n (x, y)).2 < 1073741824 ^ 3 := by
  intro n
  induction n with
  | zero =>
    intro i u x y h0 hx hy h2 h3
    have h0 : i = t := h0
    subst h0
    have st : mX1_lower_s2 (nI p) (nI i) (nI i, u) = some (.inl (.inl u)) := by
      unfold mX1_lower_s2
      dsimp only
      rw [if_pos (Int32.le_refl _)]
    rw [lp_stop st, bs]
    exact ⟨u, rfl, AF.rf u, h2, h3, hx, hy⟩
  | succ n ih =>
    intro i u x y h0 hx hy h2 h3
    have hi : i < t := by omega
    have hxp : x % p < 9223372036854775808 := by have := Nat.mod_lt x (show p > 0 by omega); omega
    have hyp : y % p < 9223372036854775808 := by have := Nat.mod_lt y (show p > 0 by omega); omega
    by_cases c1 : x % p = 0
    · by_cases c2 : y % p = 0
      · obtain ⟨F, f1, f2, f3⟩ := e_divide hp h2 hx
        obtain ⟨G, g1, g2, g3⟩ := e_divide hp h3 hy
        have st : mX1_lower_s2 (nI p) (nI t) (nI i, u) = some (.inr (nI (i + 1), sA (sA u 2 F) 3 G)) := by
          unfold mX1_lower_s2
          dsimp only
          rw [if_neg (nI_ge hi (by omega)), e_rest hp h2 hx, bs, if_pos ((lN_0 hxp).mpr c1), e_rest hp h3 hy, bs, if_pos ((lN_0 hyp).mpr c2), f1, bs, g1, bs, i_s]
        obtain ⟨u', q1, q2, q3⟩ := ih (i + 1) (sA (sA u 2 F) 3 G) (x / p) (y / p) (by omega) f3 g3 f2 g2
        refine ⟨u', by rw [lp_go st]; exact q1, (((AF.rf u).A (by decide) _).A (by decide) _).tr q2, ?_⟩
        have e : lowN p (n + 1) (x, y) = lowN p n (x / p, y / p) := if_pos ⟨c1, c2⟩
        rw [e]
        exact q3
      · have st : mX1_lower_s2 (nI p) (nI t) (nI i, u) = some (.inl (.inr u)) := by
          unfold mX1_lower_s2
          dsimp only
          rw [if_neg (nI_ge hi (by omega)), e_rest hp h2 hx, bs, if_pos ((lN_0 hxp).mpr c1), e_rest hp h3 hy, bs, if_neg (fun z => c2 ((lN_0 hyp).mp z))]
        have e : lowN p (n + 1) (x, y) = (x, y) := if_neg (fun z => c2 z.2)
        rw [lp_stop st, bs, e]
        exact ⟨u, rfl, AF.rf u, h2, h3, hx, hy⟩
    · have st : mX1_lower_s2 (nI p) (nI t) (nI i, u) = some (.inl (.inr u)) := by
        unfold mX1_lower_s2
        dsimp only
        rw [if_neg (nI_ge hi (by omega)), e_rest hp h2 hx, bs, if_neg (fun z => c1 ((lN_0 hxp).mp z))]
      have e : lowN p (n + 1) (x, y) = (x, y) := if_neg (fun z => c1 z.1)
      rw [lp_stop st, bs, e]
      exact ⟨u, rfl, AF.rf u, h2, h3, hx, hy⟩
/-! the days of a fault -/
abbrev G5 : Type := Nat × Nat × Nat × Nat × Nat
def goS (l : Nat) (z : G5) : G5 := (z.1 * 20 + z.2.2.2.2 * l, z.2.1 * 20, z.2.2.1 * (20 - l), z.2.2.2.1 * (20 - l) + z.2.2.1 * l, z.2.2.2.2 * (20 - l) + z.2.2.2.1 * l)
def go0 (d : Nat) : G5 := (0, 1, (if d = 1 then 1 else 0), (if d = 2 then 1 else 0), if d = 3 then 1 else 0)
def goI (l d : Nat) : Nat → G5
  | 0 => go0 d
  | k + 1 => goS l (goI l d k)
def small5 (z : G5) : Bool := decide (z.1 < 1073741824 ^ 3) && decide (z.2.1 < 1073741824 ^ 3)
theorem go_small : ∀ l, l < 10 → ∀ d, d < 4 → ∀ k, k < 21 → small5 (goI l d k) = true := by decide +kernel
def GH (u : KS) (z : G5) : Prop := CH (gA u 2) z.1 ∧ CH (gA u 3) z.2.1 ∧ CH (gA u 4) z.2.2.1 ∧ CH (gA u 5) z.2.2.2.1 ∧ CH (gA u 6) z.2.2.2.2
theorem e_goL {l d n : Nat} {u0 : KS} (hl : l < 10) (hn : n ≤ 20) : ∀ m k (u : KS), k + m = n → AF u0 u → GH u (goI l d k) → ∃ u', lpF (mX1_setGone_s76 (nI l) (nI n) (nI (20 - l))) (nI k, u) = some u' ∧ AF u0 u' ∧ GH u' (goI l d n) := by
  intro m
  induction m with
  | zero =>
    intro k u h0 h1 h2
    have h0 : k = n := h0
    subst h0
    refine ⟨u, lp_stop ?_, h1, h2⟩
    unfold mX1_setGone_s76
    dsimp only
    rw [if_pos (Int32.le_refl _)]
  | succ m ih =>
    intro k u h0 h1 h2
    obtain ⟨a2, a3, a4, a5, a6⟩ := h2
    obtain ⟨r1, p1, q1⟩ := e_mix (a := 20) (b := l) a2 a6 (by omega) (by omega)
    obtain ⟨r2, p2, q2⟩ := e_mix (a := 20 - l) (b := l) a6 a5 (by omega) (by omega)
    obtain ⟨r3, p3, q3⟩ := e_mix (a := 20 - l) (b := l) a5 a4 (by omega) (by omega)
    obtain ⟨r4, p4, q4⟩ := e_mixs (a := 20 - l) a4 (by omega)
    obtain ⟨r5, p5, q5⟩ := e_mixs (a := 20) a3 (by omega)
    have p1' : mX1_mix 3 (gA u 2) 3 (gA u 6) 20 (nI l) = some r1 := p1
    have p5' : mX1_mix_s 3 (gA u 3) 20 0 = some r5 := p5
    have st : mX1_setGone_s76 (nI l) (nI n) (nI (20 - l)) (nI k, u) = some (.inr (nI (k + 1), sA (sA (sA (sA (sA u 2 r1) 3 r5) 4 r4) 5 r3) 6 r2)) := by
      unfold mX1_setGone_s76
      dsimp only
      rw [if_neg (nI_ge (show k < n by omega) (by omega)), p1', bs, p2, bs, p3, bs, p4, bs, p5', bs, i_s]
    rw [lp_go st]
    refine ih (k + 1) _ (by omega) (((((h1.A (by decide) _).A (by decide) _).A (by decide) _).A (by decide) _).A (by decide) _) ⟨q1, q5, q4, q3, q2⟩
theorem e_setGone {u : KS} {d l n : Nat} (hd : 1 ≤ d ∧ d ≤ 3) (hl : l < 10) (hn : n ≤ 20) : ∃ u', mX1_setGone u (nI d) (nI l) (nI n) = some u' ∧ AF u u' ∧ CH (gA u' 2) (lowN 5 n (lowN 2 (2 * n) ((goI l d n).1, (goI l d n).2.1))).1 ∧ CH (gA u' 3) (lowN 5 n (lowN 2 (2 * n) ((goI l d n).1, (goI l d n).2.1))).2 := by
  obtain ⟨r4a, p4a, q4a⟩ := e_write (f := gA u 4) (x := 1) (by decide)
  obtain ⟨r4b, p4b, q4b⟩ := e_write (f := gA u 4) (x := 0) (by decide)
  obtain ⟨r5a, p5a, q5a⟩ := e_write (f := gA u 5) (x := 1) (by decide)
  obtain ⟨r5b, p5b, q5b⟩ := e_write (f := gA u 5) (x := 0) (by decide)
  obtain ⟨r6a, p6a, q6a⟩ := e_write (f := gA u 6) (x := 1) (by decide)
  obtain ⟨r6b, p6b, q6b⟩ := e_write (f := gA u 6) (x := 0) (by decide)
  obtain ⟨r2, p2, q2⟩ := e_write (f := gA u 2) (x := 0) (by decide)
  obtain ⟨r3, p3, q3⟩ := e_write (f := gA u 3) (x := 1) (by decide)
  have p4a' : mX1_write 3 (gA u 4) 1 = some r4a := p4a
  have p4b' : mX1_write 3 (gA u 4) 0 = some r4b := p4b
  have p5a' : mX1_write 3 (gA u 5) 1 = some r5a := p5a
  have p5b' : mX1_write 3 (gA u 5) 0 = some r5b := p5b
  have p6a' : mX1_write 3 (gA u 6) 1 = some r6a := p6a
  have p6b' : mX1_write 3 (gA u 6) 0 = some r6b := p6b
  have p2' : mX1_write 3 (gA u 2) 0 = some r2 := p2
  have p3' : mX1_write 3 (gA u 3) 1 = some r3 := p3
  have e20 : (20 : Int32) - nI l = nI (20 - l) := i_sub (a := 20) (by omega) (by decide)
  have e2n : (2 : Int32) * nI n = nI (2 * n) := i_mul 2 n
  have fin : ∀ r4 r5 r6 : Nat → Int64, CH r4 (if d = 1 then 1 else 0) → CH r5 (if d = 2 then 1 else 0) → CH r6 (if d = 3 then 1 else 0) → ∃ u', ((lpF (mX1_setGone_s76 (nI l) (nI n) (20 - nI l)) (0, (sA (sA (sA (sA (sA u 2 r2) 3 r3) 4 r4) 5 r5) 6 r6))).bind fun e76 => (mX1_lower e76 2 (2 * nI n)).bind fun r163 => (mX1_lower r163 5 (nI n)).bind fun r169 => some r169) = some u' ∧ AF u u' ∧ CH (gA u' 2) (lowN 5 n (lowN 2 (2 * n) ((goI l d n).1, (goI l d n).2.1))).1 ∧ CH (gA u' 3) (lowN 5 n (lowN 2 (2 * n) ((goI l d n).1, (goI l d n).2.1))).2 := by
    intro r4 r5 r6 h4 h5 h6
    have hA0 : AF u (sA (sA (sA (sA (sA u 2 r2) 3 r3) 4 r4) 5 r5) 6 r6) := ((((((AF.rf u).A (k := 2) (by decide) _).A (k := 3) (by decide) _).A (k := 4) (by decide) _).A (k := 5) (by decide) _).A (k := 6) (by decide) _)
    obtain ⟨u1, a1, a2, a3⟩ := e_goL (l := l) (d := d) (n := n) (u0 := u) hl hn n 0 _ (by omega) hA0 ⟨q2, q3, h4, h5, h6⟩
    have hs := go_small l hl d (by omega) n (by omega)
    unfold small5 at hs
    rw [Bool.and_eq_true, decide_eq_true_iff, decide_eq_true_iff] at hs
    obtain ⟨u2, b1, b2, b3, b4, b5, b6⟩ := e_lower (p := 2) (t := 2 * n) (Or.inl rfl) (by omega) (2 * n) 0 u1 _ _ (by omega) hs.1 hs.2 a3.1 a3.2.1
    obtain ⟨u3, c1, c2, c3, c4, c5, c6⟩ := e_lower (p := 5) (t := n) (Or.inr rfl) (by omega) n 0 u2 _ _ (by omega) b5 b6 b3 b4
    have a1' : lpF (mX1_setGone_s76 (nI l) (nI n) (nI (20 - l))) (0, (sA (sA (sA (sA (sA u 2 r2) 3 r3) 4 r4) 5 r5) 6 r6)) = some u1 := a1
    have b1' : mX1_lower u1 2 (nI (2 * n)) = some u2 := b1
    have c1' : mX1_lower u2 5 (nI n) = some u3 := c1
    rw [e20, e2n, a1', bs, b1', bs, c1', bs]
    exact ⟨u3, rfl, (a2.tr b2).tr c2, c3, c4⟩
  unfold mX1_setGone
  rcases (show d = 1 ∨ d = 2 ∨ d = 3 by omega) with q | q | q <;> subst q
  · rw [if_pos (show nI 1 = 1 from rfl), p4a', bs, if_neg (show ¬ nI 1 = 2 by decide), p5b', bs, if_neg (show ¬ nI 1 = 3 by decide), p6b', bs, p2', bs, p3', bs]
    exact fin _ _ _ q4a q5b q6b
  · rw [if_neg (show ¬ nI 2 = 1 by decide), p4b', bs, if_pos (show nI 2 = 2 from rfl), p5a', bs, if_neg (show ¬ nI 2 = 3 by decide), p6b', bs, p2', bs, p3', bs]
    exact fin _ _ _ q4b q5a q6b
  · rw [if_neg (show ¬ nI 3 = 1 by decide), p4b', bs, if_neg (show ¬ nI 3 = 2 by decide), p5b', bs, if_pos (show nI 3 = 3 from rfl), p6a', bs, p2', bs, p3', bs]
    exact fin _ _ _ q4b q5b q6a
