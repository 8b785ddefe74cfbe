/-! limb, digest -/
theorem lm_limb : LM_limb Rel := by
  intro u k0 k1 v a1 a2 hR
  have hR' := hR
  obtain ⟨L, K, P, hK, h1, h2, hf, hF, hC⟩ := hR
  obtain ⟨x, y, ⟨h0, hw0, hw1⟩, hk, s0, s1, s2⟩ := e_signOf hF
  have lx := lc_le x
  have ly := lc_le y
  by_cases c : (0 ≤ a1.toInt ∧ a1.toInt ≤ 1) ∧ 0 ≤ a2.toInt
  · have key : ∀ (j w : Nat) (z : Nat), j < 2 → w = lc z → w ≤ 3 → a1 = nI j → mX5_signOf u (nI j + 1) = some (nI w) → (∀ k, k < 3 → gA u (2 + j) k = lN (lb z k)) → (∀ k, k < 3 → gR v 4 (12 * j + k) = nI (lb z k)) → gR v 5 j = nI w → ∃ r u1 v1, mX5_limb u a1 a2 = some (r, u1) ∧ mX6_limb v a1 a2 = some (r, v1) ∧ Rel u1 k0 k1 v1 ∧ gO u1 = gO u := by
      intro j w z hj hw hw3 ha hs hA hR6 hW
      have g5 : mX5_limb u a1 a2 = if a2 < nI w then (mX1_limbOf u a1 a2).bind fun r => some (r, u) else some (-1, u) := by
        unfold mX5_limb
        rw [if_neg (by (simp only [z_lt, z_le, z_gt, z_ge, z_eq, zm1, zm2, Int32.reduceToInt] at *; omega)), if_neg (by (simp only [z_lt, z_le, z_gt, z_ge, z_eq, zm1, zm2, Int32.reduceToInt] at *; omega)), if_pos (by (simp only [z_lt, z_le, z_gt, z_ge, z_eq, zm1, zm2, Int32.reduceToInt] at *; omega)), ha, hs, bs]
      have g6 : mX6_limb v a1 a2 = if nI w ≤ a2 then some (-1, v) else gd (inb (12 * a1 + a2) 84) (some (gR v 4 ((12 * a1 + a2).toNatClampNeg), v)) := by
        unfold mX6_limb
        rw [e_inc a1 0 1 (l := 0) (h := 1) rfl rfl, if_pos c.1, bs, if_neg (by decide), if_pos (by (simp only [z_lt, z_le, z_gt, z_ge, z_eq, zm1, zm2, Int32.reduceToInt] at *; omega)), gd_t (i_inb' (by omega) (by omega)), ha, i_cl (by omega), hW]
      by_cases h : a2 < nI w
      · have h' := h
        rw [z_lt, z_nN (by omega)] at h'
        have ea : a2 = nI a2.toInt.toNat := z_is (by omega) (by omega)
        have e12 : 12 * a1 + a2 = nI (12 * j + a2.toInt.toNat) := by
          rw [ha, show (12 : Int32) = nI 12 from rfl, i_mul]
          exact (congrArg (fun q => nI (12 * j) + q) ea).trans (i_add _ _)
        have nle : ¬ nI w ≤ a2 := by rw [z_le, z_nN (by omega)]; omega
        rw [if_neg nle, e12, gd_t (i_k (by omega) (by decide)), i_cl (by omega), hR6 _ (by omega)] at g6
        have e1 : mX1_limbOf u a1 a2 = some (nI (lb z a2.toInt.toNat)) := by
          unfold mX1_limbOf
          have hlb := lb_lt z a2.toInt.toNat
          rcases (show j = 0 ∨ j = 1 by omega) with hj0 | hj0
          · subst hj0
            rw [if_pos (show a1 = (0 : Int32) from ha), e_at_ (by decide), if_pos ⟨by omega, by omega⟩, bs, show gA u 2 = gA u (2 + 0) from rfl, hA _ (by omega), lN_i32 (by omega)]
          · subst hj0
            rw [if_neg (by rw [ha]; decide), e_at_ (by decide), if_pos ⟨by omega, by omega⟩, bs, show gA u 3 = gA u (2 + 1) from rfl, hA _ (by omega), lN_i32 (by omega)]
        rw [if_pos h, e1] at g5
        exact ⟨_, u, v, g5, g6, hR', rfl⟩
      · have nle : nI w ≤ a2 := by
          rw [z_lt, z_nN (by omega)] at h
          rw [z_le, z_nN (by omega)]
          omega
        rw [if_neg h] at g5
        rw [if_pos nle] at g6
        exact ⟨_, u, v, g5, g6, hR', rfl⟩
    rcases (show a1.toInt = 0 ∨ a1.toInt = 1 by omega) with h | h
    · exact key 0 (lc x) x (by decide) rfl lx (z_is (n := 0) (by decide) h) s1 (fun k hk3 => (hk k hk3).1) (fun k hk3 => by rw [show 12 * 0 + k = k by omega]; exact (hk k hk3).2.2.1) hw0
    · exact key 1 (lc y) y (by decide) rfl ly (z_is (n := 1) (by decide) h) s2 (fun k hk3 => (hk k hk3).2.1) (fun k hk3 => (hk k hk3).2.2.2) hw1
  · refine lm_b hR' (j := 0) (by decide) (-2) ?_ ?_
    · unfold mX5_limb
      simp only [e_bad5, bs]
      by_cases h2 : a1 < 0
      · rw [if_pos h2]
      · rw [if_neg h2]
        by_cases h3 : 1 < a1
        · rw [if_pos h3]
        · rw [if_neg h3, if_neg (by (simp only [z_lt, z_le, z_gt, z_ge, z_eq, zm1, zm2, Int32.reduceToInt] at *; omega))]
    · unfold mX6_limb
      simp only [e_inc a1 0 1 (l := 0) (h := 1) rfl rfl, bs, b_i2, e_bad6]
      by_cases c1 : 0 ≤ a1.toInt ∧ a1.toInt ≤ 1
      · rw [if_pos c1, if_neg (by (simp only [z_lt, z_le, z_gt, z_ge, z_eq, zm1, zm2, Int32.reduceToInt] at *; omega))]
      · rw [if_neg c1]
def mxd (f : Nat → Int32) (n : Nat) (h : Int64) : Int64 := fd (fun i x => 31 * x + (f i).toInt64) n h
theorem mxd_cg {f g : Nat → Int32} {n : Nat} {h : Int64} (e : ∀ i, i < n → f i = g i) : mxd f n h = mxd g n h := fd_congr (fun k hk x => by rw [e k hk])
theorem e_mixed5 {n c : Nat} (f : Nat → Int32) (h : Int64) (hc : c ≤ n) (hn : n < 2147483648) : mX5_mixed n f h (nI c) = some (mxd f c h) := by
  unfold mX5_mixed
  have e := lp_fd0 (S := mX5_mixed_s6 n f (nI c)) (fun k (x : Int64) => (x, nI k)) (fun k x => 31 * x + (f k).toInt64) id c h
    (fun k x hk => by
      unfold mX5_mixed_s6
      dsimp only
      rw [if_neg (show ¬ nI c ≤ nI k from nI_ge hk (by omega)), if_neg (show ¬ Int32.ofNat n ≤ nI k from nI_ge (by omega) (by omega)), gd_t (i_k (by omega) (by omega)), i_cl (by omega), i_s])
    (fun x => by
      unfold mX5_mixed_s6
      dsimp only
      rw [if_pos (show nI c ≤ nI c from Int32.le_refl _)]
      rfl)
  exact (congrArg (fun o => Option.bind o fun e => some e) e).trans rfl
theorem e_mixed6 {n c o : Nat} (f : Nat → Int32) (h : Int64) (hc : o + c ≤ n) (hn : n < 2147483648) : mX6_mixed n f h (nI o) (nI c) = some (mxd (fun i => f (o + i)) c h) := by
  unfold mX6_mixed
  have e := lp_fd0 (S := mX6_mixed_s6 n f (nI o) (nI c)) (fun k (x : Int64) => (x, nI k)) (fun k x => 31 * x + (f (o + k)).toInt64) id c h
    (fun k x hk => by
      unfold mX6_mixed_s6
      dsimp only
      rw [if_neg (show ¬ nI c ≤ nI k from nI_ge hk (by omega)), i_add, gd_t (i_k (by omega) (by omega)), i_cl (by omega), i_s])
    (fun x => by
      unfold mX6_mixed_s6
      dsimp only
      rw [if_pos (show nI c ≤ nI c from Int32.le_refl _)]
      rfl)
  exact (congrArg (fun o => Option.bind o fun e => some e) e).trans rfl
theorem lm_digest : LM_digest Rel := by
  intro u k0 k1 v hR
  have hR' := hR
  obtain ⟨L, K, P, ⟨hT, hS, hp, hm, hl, hq⟩, h1, h2, hf, hF, hC⟩ := hR
  obtain ⟨x, y, ⟨h0, hw0, hw1⟩, hk, s0, s1, s2⟩ := e_signOf hF
  have lx := lc_le x
  have ly := lc_le y
  have hL := hT.1
  have hK := hl.1
  have hP := hq.1
  -- the counts
  obtain ⟨cv, hcv⟩ : ∃ cv : Nat → Int32, cv = fun k => if k = 0 then nI L else if k = 1 then nI K else if k = 2 then nI P else fcn (gR v 0) 0 := ⟨_, rfl⟩
  have hc : ∀ k, k < 4 → mX3_countOf u (nI k) = some (cv k) := by
    intro k hk4
    rw [hcv]
    rcases (show k = 0 ∨ k = 1 ∨ k = 2 ∨ k = 3 by omega) with h | h | h | h <;> subst h
    · rw [← hT.2.1]; rfl
    · rw [← hl.2.1]; rfl
    · rw [← hq.2.1]; rfl
    · unfold mX3_countOf
      rw [if_neg (by decide), if_neg (by decide), if_neg (by decide), e_fcount5 hm]
      rfl
  have d6 : lpF (mX5_digest_s6 u) (577, 0) = some (fd (fun k z => 31 * z + (cv k).toInt64) 4 577) :=
    lp_fd0 (S := mX5_digest_s6 u) (fun k (z : Int64) => (z, nI k)) (fun k z => 31 * z + (cv k).toInt64) id 4 577
      (fun k z hk => by
        unfold mX5_digest_s6
        dsimp only
        rw [if_neg (show ¬ (3 : Int32) < nI k from nI_nlt (a := 3) (by omega) (by decide)), hc k hk, bs, i_s])
      (fun z => by
        unfold mX5_digest_s6
        dsimp only
        rw [if_pos (by decide)]
        rfl)
  obtain ⟨sv, hsv⟩ : ∃ sv : Nat → Int32, sv = fun k => if k = 0 then (if lc x = 0 then 0 else 1) else if k = 1 then nI (lc x) else nI (lc y) := ⟨_, rfl⟩
  have hs : ∀ k, k < 3 → mX5_signOf u (nI k) = some (sv k) := by
    intro k hk3
    rw [hsv]
    rcases (show k = 0 ∨ k = 1 ∨ k = 2 by omega) with h | h | h <;> subst h
    · exact s0
    · exact s1
    · exact s2
  have d136 : ∀ z0 : Int64, lpF (mX5_digest_s136 u) (z0, 0) = some (fd (fun k z => 31 * z + (sv k).toInt64) 3 z0) := fun z0 =>
    lp_fd0 (S := mX5_digest_s136 u) (fun k (z : Int64) => (z, nI k)) (fun k z => 31 * z + (sv k).toInt64) id 3 z0
      (fun k z hk => by
        unfold mX5_digest_s136
        dsimp only
        rw [if_neg (show ¬ (2 : Int32) < nI k from nI_nlt (a := 2) (by omega) (by decide)), hs k hk, bs, i_s])
      (fun z => by
        unfold mX5_digest_s136
        dsimp only
        rw [if_pos (by decide)]
        rfl)
  have d170 : ∀ (j w z : Nat) (z0 : Int64), j < 2 → w ≤ 3 → mX5_signOf u (nI j + 1) = some (nI w) → (∀ k, k < 3 → gA u (2 + j) k = lN (lb z k)) → lpF (mX5_digest_s170 u (nI j)) (z0, 0) = some (mxd (fun i => nI (lb z i)) w z0) := by
    intro j w z z0 hj hw hs2 hA
    refine lp_fd0 (S := mX5_digest_s170 u (nI j)) (fun k (z : Int64) => (z, nI k)) (fun k x => 31 * x + (nI (lb z k)).toInt64) id w z0 ?_ ?_
    · intro k q hk2
      have e1 : mX1_limbOf u (nI j) (nI k) = some (nI (lb z k)) := by
        have hlb := lb_lt z k
        unfold mX1_limbOf
        rcases (show j = 0 ∨ j = 1 by omega) with hj0 | hj0
        · subst hj0
          rw [if_pos (by decide), e_atN_ (by decide) _ (by omega), bs, show gA u 2 = gA u (2 + 0) from rfl, hA _ (by omega), lN_i32 (by omega)]
        · subst hj0
          rw [if_neg (by decide), e_atN_ (by decide) _ (by omega), bs, show gA u 3 = gA u (2 + 1) from rfl, hA _ (by omega), lN_i32 (by omega)]
      unfold mX5_digest_s170
      dsimp only
      rw [hs2, bs, if_neg (show ¬ nI w ≤ nI k from nI_ge hk2 (by omega)), e1, bs, i_s]
    · intro q
      unfold mX5_digest_s170
      dsimp only
      rw [hs2, bs, if_pos (Int32.le_refl _)]
      rfl
  have d162 : ∀ z0 : Int64, lpF (mX5_digest_s162 u) (z0, 0) = some (mxd (fun i => nI (lb y i)) (lc y) (mxd (fun i => nI (lb x i)) (lc x) z0)) := by
    intro z0
    have a0 : mX5_digest_s162 u (z0, 0) = some (.inr (mxd (fun i => nI (lb x i)) (lc x) z0, 1)) := by
      unfold mX5_digest_s162
      dsimp only
      have h9 : lpF (mX5_digest_s170 u 0) (z0, 0) = _ := d170 0 (lc x) x z0 (by decide) lx s1 (fun k hk3 => (hk k hk3).1)
      rw [if_neg (by decide), h9]
      rfl
    have a1 : ∀ z1 : Int64, mX5_digest_s162 u (z1, 1) = some (.inr (mxd (fun i => nI (lb y i)) (lc y) z1, 2)) := by
      intro z1
      unfold mX5_digest_s162
      dsimp only
      have h9 : lpF (mX5_digest_s170 u 1) (z1, 0) = _ := d170 1 (lc y) y z1 (by decide) ly s2 (fun k hk3 => (hk k hk3).2.1)
      rw [if_neg (by decide), h9]
      rfl
    have a2 : ∀ z1 : Int64, mX5_digest_s162 u (z1, 2) = some (.inl z1) := by
      intro z1
      unfold mX5_digest_s162
      dsimp only
      rw [if_pos (by decide)]
    rw [lp_go a0, lp_go (a1 _), lp_stop (a2 _)]
  -- the class
  have g5 : mX5_digest u = some (mxd (fun i => nI (lb y i)) (lc y) (mxd (fun i => nI (lb x i)) (lc x) (fd (fun k z => 31 * z + (sv k).toInt64) 3 (mxd (gR u 6) (P * 3) (mxd (gR u 5) (K * 4) (mxd (gR u 4) 4 (mxd (gR u 3) 7 (mxd (gR u 2) 4 (mxd (gR u 1) L (fd (fun k z => 31 * z + (cv k).toInt64) 4 577)))))))))) := by
    unfold mX5_digest
    rw [d6, bs, hT.2.1, e_mixed5 _ _ hL (by decide), bs]
    rw [show (4 : Int32) = nI 4 from rfl, e_mixed5 _ _ (by decide) (by decide), bs]
    rw [show (7 : Int32) = nI 7 from rfl, e_mixed5 _ _ (by decide) (by decide), bs]
    rw [e_mixed5 _ _ (by decide) (by decide), bs]
    rw [hl.2.1, i_mul, e_mixed5 _ _ (by omega) (by decide), bs]
    rw [hq.2.1, show (3 : Int32) = nI 3 from rfl, i_mul, e_mixed5 _ _ (by omega) (by decide), bs]
    rw [d136, bs, d162]
    rfl
  have hb0 := hT.2.2.1
  have hb1 := hl.2.2.1
  have hb2 := hq.2.2.1
  have m0 : mX6_mixed 200 (gR v 0) 577 0 3 = some (mxd (fun i => gR v 0 (0 + i)) 3 577) := e_mixed6 (o := 0) (c := 3) _ _ (by decide) (by decide)
  have m1 : ∀ z, mX6_mixed 200 (gR v 0) z 80 (nI L) = some (mxd (fun i => gR v 0 (80 + i)) L z) := fun z => e_mixed6 (o := 80) _ _ (by omega) (by decide)
  have m2 : ∀ z, mX6_mixed 200 (gR v 0) z 4 4 = some (mxd (fun i => gR v 0 (4 + i)) 4 z) := fun z => e_mixed6 (o := 4) (c := 4) _ _ (by omega) (by decide)
  have m3 : ∀ z, mX6_mixed 200 (gR v 0) z 8 7 = some (mxd (fun i => gR v 0 (8 + i)) 7 z) := fun z => e_mixed6 (o := 8) (c := 7) _ _ (by omega) (by decide)
  have m4 : ∀ z, mX6_mixed 200 (gR v 0) z 15 4 = some (mxd (fun i => gR v 0 (15 + i)) 4 z) := fun z => e_mixed6 (o := 15) (c := 4) _ _ (by omega) (by decide)
  have m5 : ∀ z, mX6_mixed 200 (gR v 0) z 20 (4 * nI K) = some (mxd (fun i => gR v 0 (20 + i)) (4 * K) z) := fun z => by
    rw [show (4 : Int32) * nI K = nI (4 * K) from i_mul 4 K]
    exact e_mixed6 (o := 20) _ _ (by omega) (by decide)
  have m6 : ∀ z, mX6_mixed 200 (gR v 0) z 60 (3 * nI P) = some (mxd (fun i => gR v 0 (60 + i)) (3 * P) z) := fun z => by
    rw [show (3 : Int32) * nI P = nI (3 * P) from i_mul 3 P]
    exact e_mixed6 (o := 60) _ _ (by omega) (by decide)
  have m7 : ∀ z, mX6_mixed 84 (gR v 4) z 0 (nI (lc x)) = some (mxd (fun i => gR v 4 (0 + i)) (lc x) z) := fun z => e_mixed6 (o := 0) _ _ (by omega) (by decide)
  have m8 : ∀ z, mX6_mixed 84 (gR v 4) z 12 (nI (lc y)) = some (mxd (fun i => gR v 4 (12 + i)) (lc y) z) := fun z => e_mixed6 (o := 12) _ _ (by omega) (by decide)
  refine ⟨_, g5, ?_, hR'⟩
  unfold mX6_digest
  rw [m0, bs, e_fcount6, bs, c_0, hb0, m1, bs, m2, bs, m3, bs, m4, bs, c_1, hb1, m5, bs, c_2, hb2, m6, bs, e_signNow h0 hw0, bs, hw0, hw1, m7, bs, m8, bs]
  have t1 : fd (fun k z => 31 * z + (cv k).toInt64) 4 577 = 31 * mxd (fun i => gR v 0 (0 + i)) 3 577 + (fcn (gR v 0) 0).toInt64 := by
    rw [hcv]
    show _ = 31 * (31 * (31 * (31 * 577 + (gR v 0 0).toInt64) + (gR v 0 1).toInt64) + (gR v 0 2).toInt64) + (fcn (gR v 0) 0).toInt64
    rw [hb0, hb1, hb2]
    rfl
  have t2 : ∀ z, fd (fun k z => 31 * z + (sv k).toInt64) 3 z = 31 * (31 * (31 * z + (if lc x = 0 then (0 : Int32) else 1).toInt64) + (nI (lc x)).toInt64) + (nI (lc y)).toInt64 := by
    intro z
    rw [hsv]
    rfl
  rw [t1, t2, mxd_cg (f := gR u 1) (g := fun i => gR v 0 (80 + i)) (fun i hi => (hT.2.2.2 i hi).1), mxd_cg (f := gR u 2) (g := fun i => gR v 0 (4 + i)) (fun i hi => hS.1 i hi), mxd_cg (f := gR u 3) (g := fun i => gR v 0 (8 + i)) (fun i hi => (hp i hi).1), mxd_cg (f := gR u 4) (g := fun i => gR v 0 (15 + i)) (fun i hi => (hm i hi).1), Nat.mul_comm K 4, Nat.mul_comm P 3, mxd_cg (f := gR u 5) (g := fun i => gR v 0 (20 + i)) (fun i hi => hl.2.2.2.1 i hi), mxd_cg (f := gR u 6) (g := fun i => gR v 0 (60 + i)) (fun i hi => hq.2.2.2.1 i hi)]
  rw [mxd_cg (f := fun i => nI (lb x i)) (g := fun i => gR v 4 (0 + i)) (fun i hi => by rw [Nat.zero_add]; exact ((hk i (by omega)).2.2.1).symm), mxd_cg (f := fun i => nI (lb y i)) (g := fun i => gR v 4 (12 + i)) (fun i hi => ((hk i (by omega)).2.2.2).symm)]
