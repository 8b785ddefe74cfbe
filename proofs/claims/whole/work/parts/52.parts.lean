/-! division by an odd number, the lowest limbs first -/
theorem nw_step {a τ M s t2 m1 m2 : Int} (hM : M * M ∣ 4294967296) (h : M ∣ a * τ - 1) (hs : s = 2 - a * τ + 4294967296 * m1) (ht : t2 = τ * s + 4294967296 * m2) : M * M ∣ a * t2 - 1 := by
  obtain ⟨c, hc⟩ := h
  obtain ⟨d, hd⟩ := hM
  refine ⟨-(c * c) + d * (a * (τ * m1 + m2)), ?_⟩
  have e1 : a * τ = M * c + 1 := by omega
  have e2 : a * t2 = a * τ * (2 - a * τ) + 4294967296 * (a * (τ * m1 + m2)) := by
    rw [ht, hs, Int.mul_add, Int.mul_add, Int.mul_add, Int.mul_add, Int.mul_add, Int.mul_assoc, Int.add_assoc]
    congr 1
    have q1 : a * (τ * (4294967296 * m1)) = 4294967296 * (a * (τ * m1)) := by
      rw [Int.mul_left_comm τ, Int.mul_left_comm a]
    have q2 : a * (4294967296 * m2) = 4294967296 * (a * m2) := Int.mul_left_comm _ _ _
    rw [q1, q2]
  rw [e2, e1, hd]
  generalize a * (τ * m1 + m2) = W
  have e3 : (M * c + 1) * (2 - (M * c + 1)) - 1 = -(M * M * (c * c)) := by
    have : M * M * (c * c) = M * c * (M * c) := by rw [Int.mul_assoc, Int.mul_left_comm M c c, ← Int.mul_assoc M c]
    rw [this]
    generalize M * c = z
    rw [show (2 : Int) - (z + 1) = 1 - z by omega, Int.add_mul, Int.mul_sub]
    omega
  have e4 : M * M * -(c * c) = -(M * M * (c * c)) := Int.mul_neg _ _
  have e5 : M * M * (-(c * c) + d * W) = M * M * -(c * c) + M * M * d * W := by rw [Int.mul_add, Int.mul_assoc (M * M)]
  rw [e5, e4]
  omega
theorem wrap32 (x : Int) : ∃ m, (x + 2147483648) % 4294967296 - 2147483648 = x + 4294967296 * m := ⟨-((x + 2147483648) / 4294967296), by omega⟩
theorem nw_i32 {a : Nat} {t : Int32} {M : Int} (ha : a < 2147483648) (hM : M * M ∣ 4294967296) (h : M ∣ (a : Int) * t.toInt - 1) : M * M ∣ (a : Int) * (t * (2 - nI a * t)).toInt - 1 := by
  obtain ⟨m0, h0⟩ := wrap32 ((nI a).toInt * t.toInt)
  obtain ⟨m1, h1⟩ := wrap32 ((2 : Int32).toInt - (nI a * t).toInt)
  obtain ⟨m2, h2⟩ := wrap32 (t.toInt * (2 - nI a * t).toInt)
  have e0 : (nI a * t).toInt = (a : Int) * t.toInt + 4294967296 * m0 := by rw [z_mul, h0, z_nN ha]
  have e1 : (2 - nI a * t).toInt = 2 - (a : Int) * t.toInt + 4294967296 * (m1 - m0) := by
    rw [z_sub, h1, e0, show (2 : Int32).toInt = 2 from rfl]; omega
  have e2 : (t * (2 - nI a * t)).toInt = t.toInt * (2 - nI a * t).toInt + 4294967296 * m2 := by rw [z_mul, h2]
  exact nw_step hM h e1 e2
theorem e_turned {v : KS} {T : Nat} (r : Int32) (h : gR v 4 36 = nI (lb T 0)) (hT : T % 2 = 1) : ∃ t : Int32, lpF (mX6_parts_s4 v r) (1, 0) = some t ∧ (4294967296 : Int) ∣ (lb T 0 : Int) * t.toInt - 1 := by
  have hl := lb_lt T 0
  have hm := lb_mod2 T
  have c36 : (36 : Int32).toNatClampNeg = 36 := rfl
  have st : ∀ (k : Nat) (t : Int32), k < 5 → mX6_parts_s4 v r (t, nI k) = some (.inr (t * (2 - nI (lb T 0) * t), nI (k + 1))) := by
    intro k t hk
    unfold mX6_parts_s4
    dsimp only
    rw [if_neg (show ¬ (5 : Int32) ≤ nI k from nI_ge (b := 5) hk (by decide)), c36, h, i_s]
  have en : ∀ t : Int32, mX6_parts_s4 v r (t, nI 5) = some (.inl t) := by
    intro t
    unfold mX6_parts_s4
    dsimp only
    rw [if_pos (by decide)]
  have a0 : (2 : Int) ∣ (lb T 0 : Int) * (1 : Int32).toInt - 1 := by
    rw [show (1 : Int32).toInt = 1 from rfl, Int.mul_one]
    exact ⟨((lb T 0 : Int) - 1) / 2, by omega⟩
  obtain ⟨t1, ht1⟩ : ∃ t1, t1 = (1 : Int32) * (2 - nI (lb T 0) * 1) := ⟨_, rfl⟩
  obtain ⟨t2, ht2⟩ : ∃ t2, t2 = t1 * (2 - nI (lb T 0) * t1) := ⟨_, rfl⟩
  obtain ⟨t3, ht3⟩ : ∃ t3, t3 = t2 * (2 - nI (lb T 0) * t2) := ⟨_, rfl⟩
  obtain ⟨t4, ht4⟩ : ∃ t4, t4 = t3 * (2 - nI (lb T 0) * t3) := ⟨_, rfl⟩
  obtain ⟨t5, ht5⟩ : ∃ t5, t5 = t4 * (2 - nI (lb T 0) * t4) := ⟨_, rfl⟩
  have hl2 : lb T 0 < 2147483648 := by omega
  have a1 : (4 : Int) ∣ (lb T 0 : Int) * t1.toInt - 1 := by rw [ht1]; exact nw_i32 (M := 2) hl2 (by decide) a0
  have a2 : (16 : Int) ∣ (lb T 0 : Int) * t2.toInt - 1 := by rw [ht2]; exact nw_i32 (M := 4) hl2 (by decide) a1
  have a3 : (256 : Int) ∣ (lb T 0 : Int) * t3.toInt - 1 := by rw [ht3]; exact nw_i32 (M := 16) hl2 (by decide) a2
  have a4 : (65536 : Int) ∣ (lb T 0 : Int) * t4.toInt - 1 := by rw [ht4]; exact nw_i32 (M := 256) hl2 (by decide) a3
  have a5 : (4294967296 : Int) ∣ (lb T 0 : Int) * t5.toInt - 1 := by rw [ht5]; exact nw_i32 (M := 65536) hl2 (by decide) a4
  have s0 := st 0 1 (by decide)
  have s1 := st 1 t1 (by decide)
  have s2 := st 2 t2 (by decide)
  have s3 := st 3 t3 (by decide)
  have s4 := st 4 t4 (by decide)
  rw [← ht1] at s0
  rw [← ht2] at s1
  rw [← ht3] at s2
  rw [← ht4] at s3
  rw [← ht5] at s4
  exact ⟨t5, (lp_go s0).trans ((lp_go s1).trans ((lp_go s2).trans ((lp_go s3).trans ((lp_go s4).trans (lp_stop (en t5)))))), a5⟩
theorem lb_sh (Z i k : Nat) : lb (1073741824 ^ i * Z) (i + k) = lb Z k := by
  unfold lb
  rw [Nat.pow_add, Nat.mul_div_mul_left _ _ (Bp i)]
theorem lb_lo {Z i j : Nat} (h : j < i) : lb (1073741824 ^ i * Z) j = 0 := by
  unfold lb
  have e : 1073741824 ^ i = 1073741824 ^ j * (1073741824 * 1073741824 ^ (i - j - 1)) := by
    rw [← Nat.pow_succ', ← Nat.pow_add]
    congr 1
    omega
  rw [e, Nat.mul_assoc, Nat.mul_div_cancel_left _ (Bp j), Nat.mul_assoc]
  exact Nat.mul_mod_right _ _
/-- the digit: what the lowest limb of T y times the inverse comes to -/
theorem q_dig {T y : Nat} {t : Int32} (ht : (4294967296 : Int) ∣ (lb T 0 : Int) * t.toInt - 1) : (nI (lb (T * y) 0) * t) &&& 1073741823 = nI (y % 1073741824) := by
  have hl := lb_lt (T * y) 0
  obtain ⟨m0, h0⟩ := wrap32 ((nI (lb (T * y) 0)).toInt * t.toInt)
  obtain ⟨c, hc⟩ := ht
  refine z_nat ?_
  rw [mi32, z_mul, h0, z_nN (by omega)]
  have e1 : (lb (T * y) 0 : Int) = (T : Int) * (y : Int) - 1073741824 * ((T * y / 1073741824 : Nat) : Int) := by
    have : lb (T * y) 0 = T * y % 1073741824 := by unfold lb; rw [Nat.pow_zero, Nat.div_one]
    rw [this, ← Int.natCast_mul]
    omega
  have e2 : (T : Int) = (lb T 0 : Int) + 1073741824 * ((T / 1073741824 : Nat) : Int) := by
    have : lb T 0 = T % 1073741824 := by unfold lb; rw [Nat.pow_zero, Nat.div_one]
    rw [this]
    omega
  generalize ((T * y / 1073741824 : Nat) : Int) = z at e1
  generalize ((T / 1073741824 : Nat) : Int) = T' at e2
  generalize (lb T 0 : Int) = T0 at *
  generalize t.toInt = τ at *
  have e3 : (lb (T * y) 0 : Int) * τ = (y : Int) + 1073741824 * ((y : Int) * (4 * c) + T' * y * τ - z * τ) := by
    rw [e1, e2, Int.sub_mul, Int.add_mul, Int.add_mul]
    have p1 : T0 * (y : Int) * τ = (y : Int) * (T0 * τ) := by rw [Int.mul_comm T0, Int.mul_assoc]
    have p2 : T0 * τ = 1 + 4294967296 * c := by omega
    have p3 : (y : Int) * (1 + 4294967296 * c) = y + 4294967296 * (y * c) := by rw [Int.mul_add, Int.mul_one, Int.mul_left_comm]
    have p4 : (y : Int) * (4 * c) = 4 * (y * c) := Int.mul_left_comm _ _ _
    have p5 : 1073741824 * T' * (y : Int) * τ = 1073741824 * (T' * y * τ) := by rw [Int.mul_assoc, Int.mul_assoc, Int.mul_assoc]
    have p6 : 1073741824 * z * τ = 1073741824 * (z * τ) := Int.mul_assoc _ _ _
    rw [p1, p2, p3, p4, p5, p6]
    omega
  rw [e3]
  omega
def cz (Y T q k : Nat) : Int := (((Y % 1073741824 ^ k : Nat) : Int) - (q : Int) * ((T % 1073741824 ^ k : Nat) : Int)) / ((1073741824 ^ k : Nat) : Int)
theorem cz_r (Y T q k : Nat) : -(q : Int) ≤ cz Y T q k ∧ cz Y T q k ≤ 0 := by
  have hP := Bp k
  have h1 := Nat.mod_lt Y hP
  have h2 := Nat.mod_lt T hP
  have h3 : (q : Int) * ((T % 1073741824 ^ k : Nat) : Int) ≤ (q : Int) * ((1073741824 ^ k : Nat) : Int) := Int.mul_le_mul_of_nonneg_left (by omega) (by omega)
  have h4 : (0 : Int) ≤ (q : Int) * ((T % 1073741824 ^ k : Nat) : Int) := Int.mul_nonneg (by omega) (by omega)
  unfold cz
  generalize (q : Int) * ((T % 1073741824 ^ k : Nat) : Int) = z at *
  generalize Y % 1073741824 ^ k = a at *
  generalize 1073741824 ^ k = P at *
  constructor
  · refine (Int.le_ediv_iff_mul_le (by omega)).mpr ?_
    rw [Int.neg_mul]
    omega
  · have := (Int.ediv_lt_iff_lt_mul (a := (a : Int) - z) (b := 1) (c := (P : Int)) (by omega)).mpr (by omega)
    omega
theorem lb_subq {Y T q : Nat} (h : q * T ≤ Y) (k : Nat) : ((lb (Y - q * T) k : Nat) : Int) = ((lb Y k : Int) - (q : Int) * (lb T k : Int) + cz Y T q k) % 1073741824 ∧ cz Y T q (k + 1) = ((lb Y k : Int) - (q : Int) * (lb T k : Int) + cz Y T q k) / 1073741824 := by
  have hP : (0 : Int) < ((1073741824 ^ k : Nat) : Int) := by have := Bp k; omega
  constructor
  · rw [lbZ]
    refine dzN (M := ((Y / 1073741824 ^ (k + 1) : Nat) : Int) - (q : Int) * ((T / 1073741824 ^ (k + 1) : Nat) : Int)) hP ?_
    rw [Int.ofNat_sub h, Int.natCast_mul]
    have e1 := lb_mulZ Y k
    have e2 := lb_mulZ T k
    generalize ((Y / 1073741824 ^ (k + 1) : Nat) : Int) = u at *
    generalize ((T / 1073741824 ^ (k + 1) : Nat) : Int) = u' at *
    generalize ((lb Y k : Nat) : Int) = l at *
    generalize ((lb T k : Nat) : Int) = l' at *
    generalize ((Y % 1073741824 ^ k : Nat) : Int) = t at *
    generalize ((T % 1073741824 ^ k : Nat) : Int) = t' at *
    generalize ((1073741824 ^ k : Nat) : Int) = P at *
    have e3 : l - (q : Int) * l' + 1073741824 * (u - (q : Int) * u') = (l + 1073741824 * u) - (q : Int) * (l' + 1073741824 * u') := by
      rw [Int.mul_add, Int.mul_left_comm]; omega
    have e4 : P * ((q : Int) * (l' + 1073741824 * u')) = (q : Int) * (P * (l' + 1073741824 * u')) := Int.mul_left_comm _ _ _
    rw [e3, Int.mul_sub, e4, e1, e2, Int.mul_add (q : Int) t']
    omega
  · unfold cz
    rw [nd_sZ, nd_sZ]
    have e : ((1073741824 ^ (k + 1) : Nat) : Int) = ((1073741824 ^ k : Nat) : Int) * 1073741824 := by rw [Bs, Int.natCast_mul]; rfl
    rw [e]
    have e3 : ((Y % 1073741824 ^ k : Nat) : Int) + ((1073741824 ^ k : Nat) : Int) * ((lb Y k : Nat) : Int) - (q : Int) * (((T % 1073741824 ^ k : Nat) : Int) + ((1073741824 ^ k : Nat) : Int) * ((lb T k : Nat) : Int)) = ((Y % 1073741824 ^ k : Nat) : Int) - (q : Int) * ((T % 1073741824 ^ k : Nat) : Int) + ((1073741824 ^ k : Nat) : Int) * (((lb Y k : Nat) : Int) - (q : Int) * ((lb T k : Nat) : Int)) := by
      rw [Int.mul_add, Int.mul_sub, Int.mul_left_comm (q : Int)]; omega
    rw [e3]
    exact dzC hP
theorem e_inner {v : KS} {F0 : Nat → Int32} {r i n Y T q w3 : Nat} {c2 : Int32} (hr : r < 2) (hi : i ≤ n) (hn : n ≤ 3) (hq : q < 1073741824) (hle : q * T ≤ Y) (hY : ∀ k, k < 12 - i → F0 (12 * r + (i + k)) = nI (lb Y k)) (hT : ∀ k, k < 12 → F0 (36 + k) = nI (lb T k)) (h5 : gR v 5 3 = nI w3) (hw3 : w3 ≤ 3 ∧ T < 1073741824 ^ w3) : ∃ F, lpF (mX6_parts_s70 (nI r) c2 (nI n) (nI i) (nI q)) (0, 0, sR v 4 F0) = some (sR v 4 F) ∧ ∀ j, F j = if 12 * r + i ≤ j ∧ j < 12 * r + n then nI (lb (Y - q * T) (j - (12 * r + i))) else F0 j := by
  have e := lp_fd (S := mX6_parts_s70 (nI r) c2 (nI n) (nI i) (nI q)) (fun k (z : Int64 × (Nat → Int32)) => (z.1, nI k, sR v 4 z.2)) (fun k z => (Int64.ofInt (-cz Y T q (k + 1)), upd z.2 (12 * r + i + k) (nI (lb (Y - q * T) k)))) (fun z => sR v 4 z.2) (n - i) (Int64.ofInt (-cz Y T q 0), F0) (fun k z => z.1.toInt = -cz Y T q k ∧ (∀ j, k ≤ j → z.2 (12 * r + i + j) = F0 (12 * r + i + j)) ∧ ∀ j, j < 12 → z.2 (36 + j) = F0 (36 + j)) ⟨by
      have := cz_r Y T q 0
      exact zl_oi (by omega) (by omega), fun j _ => rfl, fun j _ => rfl⟩
    (fun k z hk hz => ⟨by
      have := cz_r Y T q (k + 1)
      exact zl_oi (by omega) (by omega), fun j hj => by
      dsimp only
      rw [u_no _ _ _ (by omega)]
      exact hz.2.1 j (by omega), fun j hj => by
      dsimp only
      rw [u_no _ _ _ (by omega)]
      exact hz.2.2 j hj⟩)
    (fun k z hk hz => by
      have i1 : inb (nI (12 * r + i + k)) 84 := i_k (by omega) (by decide)
      have c1 : (nI (12 * r + i + k)).toNatClampNeg = 12 * r + i + k := i_cl (by omega)
      have i2 : inb (nI (36 + k)) 84 := i_k (by omega) (by decide)
      have c2' : (nI (36 + k)).toNatClampNeg = 36 + k := i_cl (by omega)
      have e36 : (36 : Int32) + nI k = nI (36 + k) := i_add 36 k
      have hl := lb_lt Y k
      have hl' := lb_lt T k
      have hb := cz_r Y T q k
      have hb' := cz_r Y T q (k + 1)
      obtain ⟨m1, m2⟩ := lb_subq hle k
      have hy : F0 (12 * r + i + k) = nI (lb Y k) := by rw [Nat.add_assoc]; exact hY k (by omega)
      have hm : q * lb T k ≤ 1073741824 * 1073741824 := Nat.mul_le_mul (Nat.le_of_lt hq) (Nat.le_of_lt hl')
      have zq : (lN (q * lb T k)).toInt = (q : Int) * (lb T k : Int) := by rw [zl_nN (by omega), Int.natCast_mul]
      have hm' : (q : Int) * (lb T k : Int) ≤ 1073741824 * 1073741824 := by rw [← Int.natCast_mul]; omega
      have hm0 : (0 : Int) ≤ (q : Int) * (lb T k : Int) := by rw [← Int.natCast_mul]; omega
      have fin : ∀ V : Int64, V.toInt = (lb Y k : Int) - (q : Int) * (lb T k : Int) + cz Y T q k → (-(V >>> ((30 : Int32).toInt64 &&& 63))) = Int64.ofInt (-cz Y T q (k + 1)) ∧ (V &&& 1073741823).toInt32 = nI (lb (Y - q * T) k) := by
        intro V hV
        constructor
        · refine zl_inj ?_
          rw [zl_oi (by omega) (by omega), zl_neg, sr30, hV, ← m2]
          omega
        · have : V &&& 1073741823 = lN (lb (Y - q * T) k) := zl_nat (by rw [ml64, hV, m1])
          rw [this, lN_i]
      have z1 : (lN (lb Y k)).toInt = (lb Y k : Int) := zl_nN (by omega)
      unfold mX6_parts_s70
      dsimp only
      rw [show (3 : Int32).toNatClampNeg = 3 from rfl, show gR (sR v 4 z.2) 5 = gR v 5 from rfl, h5, i_add, if_neg (nI_ge (show i + k < n by omega) (by omega)), e12, i_add, e36, gd_t i1, gd_t i1, gd_t i2, gd_t i1, gd_t i1, c1, c2', show gR (sR v 4 z.2) 4 = z.2 from rfl, hz.2.1 k (Nat.le_refl _), hz.2.2 k (by omega), hy, hT k (by omega), nI_l (by omega), nI_l (by omega), nI_l (by omega), lN_mul, i_s, sR_sR, sR_sR]
      by_cases d : w3 ≤ k
      · have ht0 : lb T k = 0 := lb_0w hw3.2 d
        have hV : (lN (lb Y k) - 0 - z.1).toInt = (lb Y k : Int) - (q : Int) * (lb T k : Int) + cz Y T q k := by
          have s1 : (lN (lb Y k) - 0).toInt = (lb Y k : Int) := by rw [zl_sub, z1, show (0 : Int64).toInt = 0 from rfl]; omega
          rw [zl_sub, s1, hz.1, ht0, Int.natCast_zero, Int.mul_zero]; omega
        obtain ⟨f1, f2⟩ := fin _ hV
        rw [if_pos (nI_le d (by omega)), f1, f2]
      · have hV : (lN (lb Y k) - lN (q * lb T k) - z.1).toInt = (lb Y k : Int) - (q : Int) * (lb T k : Int) + cz Y T q k := by
          have s1 : (lN (lb Y k) - lN (q * lb T k)).toInt = (lb Y k : Int) - (q : Int) * (lb T k : Int) := by rw [zl_sub, z1, zq]; omega
          rw [zl_sub, s1, hz.1]; omega
        obtain ⟨f1, f2⟩ := fin _ hV
        rw [if_neg (nI_ge (by omega) (by omega)), f1, f2])
    (fun z _ => by
      unfold mX6_parts_s70
      dsimp only
      rw [i_add, show i + (n - i) = n by omega, if_pos (Int32.le_refl _)])
  have hz1 : ∀ m, (fd (fun k (z : Int64 × (Nat → Int32)) => (Int64.ofInt (-cz Y T q (k + 1)), upd z.2 (12 * r + i + k) (nI (lb (Y - q * T) k)))) m (Int64.ofInt (-cz Y T q 0), F0)) = (Int64.ofInt (-cz Y T q m), fd (fun k z => upd z (12 * r + i + k) (nI (lb (Y - q * T) k))) m F0) := by
    intro m
    induction m with
    | zero => rfl
    | succ m ih => rw [fd_s, ih]; rfl
  rw [hz1] at e
  have c0 : Int64.ofInt (-cz Y T q 0) = 0 := by
    have : cz Y T q 0 = 0 := by
      unfold cz
      rw [Nat.pow_zero, Nat.mod_one, Nat.mod_one, Int.natCast_zero, Int.mul_zero]
      rfl
    rw [this]
    rfl
  rw [c0] at e
  refine ⟨_, e, fun j => ?_⟩
  dsimp only
  rw [fd_up (12 * r + i) (fun k => nI (lb (Y - q * T) k))]
  by_cases d : 12 * r + i ≤ j ∧ j < 12 * r + n
  · rw [if_pos d, if_pos (by omega)]
  · rw [if_neg d, if_neg (by omega)]
def Rv (T Q i : Nat) : Nat := 1073741824 ^ i * (T * (Q / 1073741824 ^ i))
theorem Rv_s (T Q i : Nat) : Rv T Q (i + 1) = 1073741824 ^ i * (T * (Q / 1073741824 ^ i) - Q / 1073741824 ^ i % 1073741824 * T) ∧ Q / 1073741824 ^ i % 1073741824 * T ≤ T * (Q / 1073741824 ^ i) := by
  have e : Q / 1073741824 ^ (i + 1) = Q / 1073741824 ^ i / 1073741824 := by rw [Bs, Nat.div_div_eq_div_mul]
  unfold Rv
  rw [e, Bs]
  generalize Q / 1073741824 ^ i = y
  have h1 := Nat.mod_add_div y 1073741824
  constructor
  · rw [Nat.mul_comm (y % 1073741824), ← Nat.mul_sub, Nat.mul_assoc]
    congr 1
    rw [Nat.mul_left_comm]
    congr 1
    omega
  · rw [Nat.mul_comm]
    exact Nat.mul_le_mul_left T (Nat.mod_le _ _)
theorem Rv_le (T Q i : Nat) : Rv T Q i ≤ T * Q := by
  unfold Rv
  rw [Nat.mul_left_comm]
  exact Nat.mul_le_mul_left T (Nat.mul_div_le _ _)
def LG (r : Nat) (v v' : KS) : Prop := (∀ k, gI v' k = gI v k) ∧ (∀ k, k ≠ 4 ∧ k ≠ 5 → gR v' k = gR v k) ∧ (∀ j, (j < 12 * r ∨ 12 * r + 12 ≤ j) ∧ (j < 48 ∨ 60 ≤ j) → gR v' 4 j = gR v 4 j) ∧ (∀ j, j ≠ r → gR v' 5 j = gR v 5 j) ∧ gL v' = gL v ∧ gA v' = gA v ∧ gO v' = gO v
theorem RH.lg {v v' : KS} {q r y : Nat} (h : RH v q y) (l : LG r v v') (hn : q ≠ r) (h4 : q ≠ 4) : RH v' q y := by
  obtain ⟨h1, h2, w, h3, h5⟩ := h
  exact ⟨h1, fun k hk => (l.2.2.1 _ (by omega)).trans (h2 k hk), w, (l.2.2.2.1 q hn).trans h3, h5⟩
theorem e_parts {v : KS} {r T Q : Nat} (hr : r < 2) (h : RH v r (T * Q)) (hT : RH v 3 T) (h2 : T % 2 = 1) : ∃ v', mX6_parts v (nI r) = some v' ∧ RH v' r Q ∧ LG r v v' := by
  have ir : inb (nI r) 7 := i_k (by omega) (by decide)
  have cr : (nI r).toNatClampNeg = r := i_cl (by omega)
  obtain ⟨h1, hL, n, h3, h4, h5⟩ := h
  obtain ⟨t1, tL, w3, t3, t4, t5⟩ := hT
  obtain ⟨t, q1, q2⟩ := e_turned (v := v) (nI r) (tL 0 (by decide)) h2
  have hT1 : 1 ≤ T := by omega
  have hQle : Q ≤ T * Q := Nat.le_mul_of_pos_left Q hT1
  have step : ∀ i (F0 : Nat → Int32), i < n → (∀ k, k < 12 → F0 (12 * r + k) = nI (lb (Rv T Q i) k)) → (∀ k, k < 12 → F0 (36 + k) = nI (lb T k)) → ∃ F, mX6_parts_s39 (nI r) t (nI n) (nI i, sR v 4 F0) = some (.inr (nI (i + 1), sR v 4 (upd F (48 + i) (nI (lb Q i))))) ∧ (∀ k, k < 12 → F (12 * r + k) = nI (lb (Rv T Q (i + 1)) k)) ∧ ∀ j, (j < 12 * r ∨ 12 * r + 12 ≤ j) → F j = F0 j := by
    intro i F0 hi hF0 hF3
    obtain ⟨rs1, rs2⟩ := Rv_s T Q i
    have e48 : (48 : Int32) + nI i = nI (48 + i) := i_add 48 i
    have i1 : inb (nI (12 * r + i)) 84 := i_k (by omega) (by decide)
    have c1 : (nI (12 * r + i)).toNatClampNeg = 12 * r + i := i_cl (by omega)
    have i2 : inb (nI (48 + i)) 84 := i_k (by omega) (by decide)
    have c2 : (nI (48 + i)).toNatClampNeg = 48 + i := i_cl (by omega)
    have hf0 : F0 (12 * r + i) = nI (lb (T * (Q / 1073741824 ^ i)) 0) := by
      rw [hF0 i (by omega)]
      congr 1
      exact lb_sh _ i 0
    have hq := q_dig (T := T) (y := Q / 1073741824 ^ i) q2
    have hqB : Q / 1073741824 ^ i % 1073741824 < 1073741824 := Nat.mod_lt _ (by decide)
    obtain ⟨F, f1, f2⟩ := e_inner (v := v) (F0 := F0) (i := i) (n := n) (Y := T * (Q / 1073741824 ^ i)) (T := T) (q := Q / 1073741824 ^ i % 1073741824) (c2 := t) hr (by omega) h4 hqB rs2 (fun k hk => by
      rw [hF0 (i + k) (by omega)]
      congr 1
      exact lb_sh _ i k) hF3 t3 ⟨t4, t5.1⟩
    refine ⟨F, ?_, fun k hk => ?_, fun j hj => by rw [f2, if_neg (by omega)]⟩
    · unfold mX6_parts_s39
      dsimp only
      rw [if_neg (nI_ge hi (by omega)), e12, gd_t i1, c1, show gR (sR v 4 F0) 4 = F0 from rfl, hf0, hq, f1, bs, e48, gd_t i2, c2, i_s, sR_sR]
      rfl
    · rw [f2]
      by_cases d : i ≤ k ∧ k < n
      · rw [if_pos (by omega), rs1, show 12 * r + k - (12 * r + i) = k - i by omega]
        congr 1
        have := lb_sh (T * (Q / 1073741824 ^ i) - Q / 1073741824 ^ i % 1073741824 * T) i (k - i)
        rw [show i + (k - i) = k by omega] at this
        exact this.symm
      · rw [if_neg (by omega), hF0 k hk]
        congr 1
        by_cases d2 : k < i
        · unfold Rv
          rw [lb_lo d2, lb_lo (by omega)]
        · rw [lb_0w (Nat.lt_of_le_of_lt (Rv_le T Q i) h5.1) (by omega), lb_0w (Nat.lt_of_le_of_lt (Rv_le T Q (i + 1)) h5.1) (by omega)]
  have loop : ∀ m i (F0 : Nat → Int32), i + m = n → (∀ k, k < 12 → F0 (12 * r + k) = nI (lb (Rv T Q i) k)) → (∀ k, k < 12 → F0 (36 + k) = nI (lb T k)) → (∀ k, k < i → F0 (48 + k) = nI (lb Q k)) → (∀ j, (j < 12 * r ∨ 12 * r + 12 ≤ j) ∧ (j < 48 ∨ 60 ≤ j) → F0 j = gR v 4 j) → ∃ F, lpF (mX6_parts_s39 (nI r) t (nI n)) (nI i, sR v 4 F0) = some (sR v 4 F) ∧ (∀ k, k < 12 → F (12 * r + k) = nI (lb (Rv T Q n) k)) ∧ (∀ k, k < n → F (48 + k) = nI (lb Q k)) ∧ (∀ j, (j < 12 * r ∨ 12 * r + 12 ≤ j) ∧ (j < 48 ∨ 60 ≤ j) → F j = gR v 4 j) := by
    intro m
    induction m with
    | zero =>
      intro i F0 h0 a1 a2 a3 a4
      have h0 : i = n := h0
      subst h0
      refine ⟨F0, lp_stop ?_, a1, a3, a4⟩
      unfold mX6_parts_s39
      dsimp only
      rw [if_pos (Int32.le_refl _)]
    | succ m ih =>
      intro i F0 h0 a1 a2 a3 a4
      obtain ⟨F, f1, f2, f3⟩ := step i F0 (by omega) a1 a2
      rw [lp_go f1]
      refine ih (i + 1) _ (by omega) (fun k hk => ?_) (fun k hk => ?_) (fun k hk => ?_) (fun j hj => ?_)
      · rw [u_no _ _ _ (by omega)]; exact f2 k hk
      · rw [u_no _ _ _ (by omega), f3 _ (by omega)]; exact a2 k hk
      · by_cases d : k = i
        · rw [d, u_is]
        · rw [u_no _ _ _ (by omega), f3 _ (by omega)]; exact a3 k (by omega)
      · rw [u_no _ _ _ (by omega), f3 _ hj.1]; exact a4 j hj
  have hR0 : Rv T Q 0 = T * Q := by
    unfold Rv
    rw [Nat.pow_zero, Nat.div_one, Nat.one_mul]
  obtain ⟨F, f1, f2, f3, f4⟩ := loop n 0 (gR v 4) (by omega) (fun k hk => by rw [hR0]; exact hL k hk) (fun k hk => tL k hk) (fun k hk => absurd hk (Nat.not_lt_zero _)) (fun j _ => rfl)
  rw [sR_self] at f1
  have f1' : lpF (mX6_parts_s39 (nI r) t (nI n)) (0, v) = some (sR v 4 F) := f1
  have e := lp_fd (S := mX6_parts_s192 (nI r) (nI n)) (fun k (z : Nat → Int32) => (nI k, sR v 4 z)) (fun k z => upd z (12 * r + k) (nI (lb Q k))) (fun z => sR v 4 z) n F (fun k z => ∀ j, j < n → z (48 + j) = nI (lb Q j)) f3
    (fun k z hk hz j hj => by
      rw [u_no _ _ _ (by omega)]
      exact hz j hj)
    (fun k z hk hz => by
      have e48 : (48 : Int32) + nI k = nI (48 + k) := i_add 48 k
      have i1 : inb (nI (12 * r + k)) 84 := i_k (by omega) (by decide)
      have c1 : (nI (12 * r + k)).toNatClampNeg = 12 * r + k := i_cl (by omega)
      have i2 : inb (nI (48 + k)) 84 := i_k (by omega) (by decide)
      have c2 : (nI (48 + k)).toNatClampNeg = 48 + k := i_cl (by omega)
      unfold mX6_parts_s192
      dsimp only
      rw [if_neg (nI_ge hk (by omega)), e12, e48, gd_t i2, gd_t i1, c1, c2, show gR (sR v 4 z) 4 = z from rfl, hz k hk, i_s, sR_sR])
    (fun z _ => by
      unfold mX6_parts_s192
      dsimp only
      rw [if_pos (Int32.le_refl _)])
  have e' : lpF (mX6_parts_s192 (nI r) (nI n)) (0, sR v 4 F) = _ := e
  have hG := fd_up (12 * r) (fun k => nI (lb Q k)) n F
  generalize fd (fun k z => upd z (12 * r + k) (nI (lb Q k))) n F = G at e' hG
  have hQn : Q < 1073741824 ^ n := Nat.lt_of_le_of_lt hQle h5.1
  have hQ3 : Q < 1073741824 ^ 3 := Nat.lt_of_le_of_lt hQle h1
  have hGk : ∀ k, k < 12 → G (12 * r + k) = nI (lb Q k) := by
    intro k hk
    rw [hG]
    by_cases d : k < n
    · rw [if_pos (by omega), Nat.add_sub_cancel_left]
    · rw [if_neg (by omega), f2 k hk, lb_0w hQn (by omega), lb_0w (Nat.lt_of_le_of_lt (Rv_le T Q n) h5.1) (by omega)]
  have hGj : ∀ j, (j < 12 * r ∨ 12 * r + 12 ≤ j) ∧ (j < 48 ∨ 60 ≤ j) → G j = gR v 4 j := fun j hj => by rw [hG, if_neg (by omega), f4 j hj]
  obtain ⟨v', y1, y2, y3⟩ := rh_fin' (v := sR v 4 G) (F := G) (show r < 7 by omega) (show n ≤ 12 by omega) hQ3 hQn hGk h3 (fun j hj => rfl)
  rw [sR_sR] at y1
  refine ⟨v', ?_, y2, y3.1, fun k hk => (y3.2.1 k hk).trans (by rw [s_RR, if_neg hk.1]), fun j hj => (y3.2.2.1 j hj.1).trans (hGj j hj), fun j hj => y3.2.2.2.1 j hj, y3.2.2.2.2.1, y3.2.2.2.2.2.1, y3.2.2.2.2.2.2⟩
  unfold mX6_parts
  rw [q1, bs, gd_t ir, cr, h3, f1', bs, e', bs, y1, bs]
