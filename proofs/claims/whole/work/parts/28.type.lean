/-! type, takes -/
theorem and255 (y : Int32) : 0 ≤ (y &&& 255).toInt ∧ (y &&& 255).toInt < 256 := by
  have h1 : (y &&& 255).toBitVec = y.toBitVec &&& 255#32 := rfl
  have h2 : (y &&& 255).toBitVec.toNat ≤ 255 := by
    rw [h1, BitVec.toNat_and]
    exact Nat.and_le_right
  have h3 : (y &&& 255).toInt = (y &&& 255).toBitVec.toInt := rfl
  rw [h3, BitVec.toInt_eq_toNat_cond]
  rw [if_pos (by omega)]
  omega
def ty_b (c : Int64) (i : Int32) : Int32 := ((c >>> ((8 * i).toInt64 &&& 63)).toInt32) &&& 255
theorem ty_6 (c : Int64) (i : Int32) : ((c >>> ((8 * i).toInt64 &&& 63)) &&& 255).toInt32 = ty_b c i := by
  unfold ty_b
  rw [Int64.toInt32_and]
  rfl
def tcn (n j : Nat) : Int32 := nI n - nI (j + 1)
theorem tcn_s (n j : Nat) : tcn n j + (-1) = tcn n (j + 1) := by
  unfold tcn
  rw [show nI (j + 1 + 1) = nI (j + 1) + 1 from (i_s _).symm, Int32.sub_eq_add_neg, Int32.sub_eq_add_neg, Int32.neg_add, Int32.sub_eq_add_neg, Int32.add_assoc]
theorem tcn_lt {n j : Nat} (hn : n ≤ 8) (hj : j ≤ n) : tcn n j < 0 ↔ n ≤ j := by
  have e : (tcn n j).toInt = (n : Int) - (j + 1) := by
    unfold tcn
    rw [z_subc (by rw [z_nN (by omega), z_nN (by omega)]; omega) (by rw [z_nN (by omega), z_nN (by omega)]; omega), z_nN (by omega), z_nN (by omega)]
    omega
  rw [z_lt, e, show (0 : Int32).toInt = 0 from rfl]
  omega
def vT (a3 : Int32) : Prop := 1 ≤ a3.toInt ∧ a3.toInt ≤ 8
/-- the bytes as they come -/
theorem e_ty5 {u : KS} {L n : Nat} (hL : gI u 2 = nI L) (hn : n ≤ 8) (hLn : L + n ≤ 120) (c : Int64) : lpF (mX5_type_s40 c) (nI n - 1, u) = some (sR (sI u 2 (nI (L + n))) 1 (fd (fun j x => upd x (L + j) (ty_b c (tcn n j))) n (gR u 1))) := by
  have e := lp_fd0 (S := mX5_type_s40 c) (fun j (F : Nat → Int32) => (tcn n j, sR (sI u 2 (nI (L + j))) 1 F)) (fun j x => upd x (L + j) (ty_b c (tcn n j))) (fun F => sR (sI u 2 (nI (L + n))) 1 F) n (gR u 1)
    (fun j F hj => by
      unfold mX5_type_s40
      dsimp only
      rw [if_neg (fun q => by have := (tcn_lt hn (Nat.le_of_lt hj)).mp q; omega), show gR (sR (sI u 2 (nI (L + j))) 1 F) 1 = F from rfl, show gI (sR (sI u 2 (nI (L + j))) 1 F) 2 = nI (L + j) from rfl, e_setN (by decide) _ _ (by omega), bs, tcn_s, i_s, sI_sR, sI_sI, sR_sR]
      rfl)
    (fun F => by
      unfold mX5_type_s40
      dsimp only
      rw [if_pos ((tcn_lt hn (Nat.le_refl _)).mpr (Nat.le_refl _))])
  have e0 : sR (sI u 2 (nI (L + 0))) 1 (gR u 1) = u := by
    rw [Nat.add_zero, ← hL, sI_self, sR_self]
  rw [e0] at e
  exact e
def ty_g (c : Int64) (n L : Nat) (j : Nat) (F : Nat → Int32) : Nat → Int32 := upd (upd F (80 + (L + j)) (ty_b c (tcn n j))) 0 (nI (L + j + 1))
theorem ty_c (c : Int64) (n L : Nat) (B : Nat → Int32) : ∀ m j, fd (ty_g c n L) m B j = if j = 0 then (if m = 0 then B 0 else nI (L + m)) else if 80 + L ≤ j ∧ j < 80 + L + m then ty_b c (tcn n (j - 80 - L)) else B j := by
  intro m
  induction m with
  | zero =>
    intro j
    show B j = _
    by_cases h : j = 0
    · rw [if_pos h, if_pos rfl, h]
    · rw [if_neg h, if_neg (by omega)]
  | succ m ih =>
    intro j
    rw [fd_s]
    unfold ty_g
    rw [u_s]
    by_cases h : j = 0
    · rw [if_pos h, if_pos h, if_neg (by omega)]
      rfl
    · rw [if_neg h, if_neg h, u_s]
      by_cases h2 : j = 80 + (L + m)
      · rw [if_pos h2, if_pos (by omega), show j - 80 - L = m by omega]
      · rw [if_neg h2]
        show fd (ty_g c n L) m B j = _
        rw [ih, if_neg h]
        by_cases h3 : 80 + L ≤ j ∧ j < 80 + L + m
        · rw [if_pos h3, if_pos (by omega)]
        · rw [if_neg h3, if_neg (by omega)]
theorem e_ty6 {v : KS} {L n : Nat} (hL : gR v 0 0 = nI L) (hn : n ≤ 8) (hLn : L + n ≤ 120) (c : Int64) : lpF (mX6_type_s40 c) (nI n - 1, v) = some (sR v 0 (fd (ty_g c n L) n (gR v 0))) := by
  have e := lp_fd (S := mX6_type_s40 c) (fun j (F : Nat → Int32) => (tcn n j, sR v 0 F)) (ty_g c n L) (fun F => sR v 0 F) n (gR v 0) (fun j F => F 0 = nI (L + j)) hL (fun j F _ _ => u_is _ _ _)
    (fun j F hj hF => by
      unfold mX6_type_s40
      dsimp only
      have e1 : (80 : Int32) + nI (L + j) = nI (80 + (L + j)) := i_add 80 _
      rw [if_neg (fun q => by have := (tcn_lt hn (Nat.le_of_lt hj)).mp q; omega), c_0, show gR (sR v 0 F) 0 = F from rfl, hF, e1, gd_t (i_k (by omega) (by decide)), i_cl (by omega), u_no _ _ _ (show 0 ≠ 80 + (L + j) by omega), hF, tcn_s, i_s, sR_sR, ty_6]
      rfl)
    (fun F hF => by
      unfold mX6_type_s40
      dsimp only
      rw [if_pos ((tcn_lt hn (Nat.le_refl _)).mpr (Nat.le_refl _))])
  rw [sR_self] at e
  exact e
theorem lm_type : LM_type Rel := by
  intro u k0 k1 v a1 a3 hR
  have hR' := hR
  obtain ⟨L, K, P, ⟨hT, hS, hp, hm, hl, hq⟩, h0, h1, hf, hF, hC⟩ := hR
  have hL := hT.1
  have hK8 := hl.1
  by_cases c : 1 ≤ a3.toInt ∧ a3.toInt ≤ 8
  · obtain ⟨n, hn⟩ : ∃ n : Nat, n = a3.toInt.toNat := ⟨_, rfl⟩
    have ha : a3 = nI n := z_is (by omega) (by omega)
    have hn8 : n ≤ 8 := by omega
    have hn1 : 1 ≤ n := by omega
    have e120 : (nI (L + n) ≤ 120) ↔ L + n ≤ 120 := by rw [show (120 : Int32) = nI 120 from rfl]; exact nI_leI (by omega) (by omega)
    have c1 : ¬ a3 < 1 := by (simp only [z_lt, z_le, z_gt, z_ge, z_eq, zm1, zm2, Int32.reduceToInt] at *; omega)
    have c2 : a3 ≤ 8 := by (simp only [z_lt, z_le, z_gt, z_ge, z_eq, zm1, zm2, Int32.reduceToInt] at *; omega)
    by_cases h : L + n ≤ 120
    · have g5 : mX5_type u a1 a3 = some (nI (L + n), sI (sI (sR (sI u 2 (nI (L + n))) 1 (fd (fun j x => upd x (L + j) (ty_b a1 (tcn n j))) n (gR u 1))) 0 1) 1 1) := by
        unfold mX5_type
        rw [if_neg c1, if_pos c2, hT.2.1, ha, i_add, if_pos (e120.mpr h), e_ty5 hT.2.1 hn8 h, bs]
        rfl
      have g6 : mX6_type v a1 a3 = some (nI (L + n), sR v 0 (fd (ty_g a1 n L) n (gR v 0))) := by
        unfold mX6_type
        rw [e_inc a3 1 8 (l := 1) (h := 8) rfl rfl, if_pos c, bs, if_neg (by decide), c_0, hT.2.2.1, ha, i_add, if_pos (e120.mpr h), e_ty6 hT.2.2.1 hn8 h, bs]
        show some (fd (ty_g a1 n L) n (gR v 0) 0, _) = _
        rw [ty_c, if_pos rfl, if_neg (by omega)]
      generalize hb : fd (ty_g a1 n L) n (gR v 0) = b' at g6
      have n0 : b' 0 = nI (L + n) := by rw [← hb, ty_c, if_pos rfl, if_neg (by omega)]
      have no : ∀ j, j ≠ 0 → j < 80 → b' j = gR v 0 j := fun j q1 q2 => by rw [← hb, ty_c, if_neg q1, if_neg (by omega)]
      refine ⟨_, _, _, g5, g6, ⟨L + n, K, P, ⟨⟨h, rfl, n0, fun i hi => ?_⟩, Ks_cg hS rfl (fun i hi => no _ (by omega) (by omega)), Kp_cg hp rfl (fun i hi => no _ (by omega) (by omega)), Km_cg hm rfl (fun i hi => no _ (by omega) (by omega)), Kl_cg hl rfl rfl (no _ (by omega) (by omega)) (fun i hi => no _ (by omega) (by omega)), Kq_cg hq rfl rfl (no _ (by omega) (by omega)) (fun i hi => no _ (by omega) (by have := hq.1; omega))⟩, h0, h1, hf, hF, Or.inl rfl, Or.inl rfl⟩, rfl⟩
      show fd (fun j x => upd x (L + j) (ty_b a1 (tcn n j))) n (gR u 1) i = b' (80 + i) ∧ 0 ≤ (b' (80 + i)).toInt ∧ (b' (80 + i)).toInt < 256
      have e1 : b' (80 + i) = if L ≤ i ∧ i < L + n then ty_b a1 (tcn n (i - L)) else gR v 0 (80 + i) := by
        rw [← hb, ty_c, if_neg (by omega)]
        by_cases q : L ≤ i ∧ i < L + n
        · rw [if_pos (by omega), if_pos q, show 80 + i - 80 - L = i - L by omega]
        · rw [if_neg (by omega), if_neg q]
      rw [e1, fd_up L (fun j => ty_b a1 (tcn n j))]
      by_cases q : L ≤ i ∧ i < L + n
      · rw [if_pos q, if_pos q]
        exact ⟨rfl, and255 _⟩
      · rw [if_neg q, if_neg q]
        exact hT.2.2.2 i (by omega)
    · refine lm_b hR' (j := 2) (by decide) (-4) ?_ ?_
      · unfold mX5_type
        rw [if_neg c1, if_pos c2, hT.2.1, ha, i_add, if_neg (fun q => h (e120.mp q)), e_full5]
        rfl
      · unfold mX6_type
        rw [e_inc a3 1 8 (l := 1) (h := 8) rfl rfl, if_pos c, bs, if_neg (by decide), c_0, hT.2.2.1, ha, i_add, if_neg (fun q => h (e120.mp q)), e_full6]
        rfl
  · refine lm_b hR' (j := 0) (by decide) (-2) ?_ ?_
    · unfold mX5_type
      simp only [e_bad5, bs]
      by_cases h2 : a3 < 1
      · rw [if_pos h2]
      · rw [if_neg h2, if_neg (by (simp only [z_lt, z_le, z_gt, z_ge, z_eq, zm1, zm2, Int32.reduceToInt] at *; omega))]
    · unfold mX6_type
      rw [e_inc a3 1 8 (l := 1) (h := 8) rfl rfl, if_neg c, bs, if_pos rfl, e_bad6]
      rfl
/-! takes -/
theorem i_bit (y : Int32) : y &&& 1 = 0 ∨ y &&& 1 = 1 := by
  have h2 : (y &&& 1).toBitVec.toNat ≤ 1 := by
    show (y.toBitVec &&& 1#32).toNat ≤ 1
    rw [BitVec.toNat_and]
    exact Nat.and_le_right
  have h3 : (y &&& 1).toInt = (y &&& 1).toBitVec.toInt := rfl
  rw [BitVec.toInt_eq_toNat_cond, if_pos (by omega)] at h3
  rcases (show (y &&& 1).toInt = 0 ∨ (y &&& 1).toInt = 1 by omega) with h | h
  · exact Or.inl (z_inj h)
  · exact Or.inr (z_inj h)
abbrev bt (s : Int32) (p : Nat) : Int32 := (s >>> (nI p &&& 31)) &&& 1
def cst (b : Nat → Int32) (s : Int32) (p : Nat) : Int32 := fd (fun p x => if bt s p = 1 then x + b (60 + 3 * p) else x) p 0
def wth (b : Nat → Int32) (s : Int32) (p : Nat) : Int32 := fd (fun p x => if bt s p = 1 then x + b (60 + (3 * p + 1)) * b (60 + (3 * p + 2)) else x) p 0
theorem e_cost5 {u : KS} {b : Nat → Int32} {P : Nat} (hq : Kq u b P) (s : Int32) : mX3_costOf u s = some (cst b s P) := by
  have hP := hq.1
  unfold mX3_costOf
  have e := lp_fd0 (S := mX3_costOf_s4 u s) (fun k (x : Int32) => (x, nI k)) (fun p x => if bt s p = 1 then x + b (60 + 3 * p) else x) id P 0
    (fun k x hk => by
      unfold mX3_costOf_s4
      dsimp only
      have e1 : nI k * 3 = nI (3 * k) := by rw [show (3 : Int32) = nI 3 from rfl, i_mul, Nat.mul_comm]
      rw [hq.2.1, if_neg (show ¬ nI P ≤ nI k from nI_ge hk (by omega)), e1, e_atN (by decide) _ (by omega), bs, i_s, hq.2.2.2.1 _ (by omega)]
      by_cases h : bt s k = 1
      · rw [if_pos h, if_pos h]
      · rw [if_neg h, if_neg h])
    (fun x => by
      unfold mX3_costOf_s4
      dsimp only
      rw [hq.2.1, if_pos (Int32.le_refl _)]
      rfl)
  exact (congrArg (fun o => Option.bind o fun e => some e) e).trans rfl
theorem e_worth5 {u : KS} {b : Nat → Int32} {P : Nat} (hq : Kq u b P) (s : Int32) : mX3_worthOf u s = some (wth b s P) := by
  have hP := hq.1
  unfold mX3_worthOf
  have e := lp_fd0 (S := mX3_worthOf_s4 u s) (fun k (x : Int32) => (x, nI k)) (fun p x => if bt s p = 1 then x + b (60 + (3 * p + 1)) * b (60 + (3 * p + 2)) else x) id P 0
    (fun k x hk => by
      unfold mX3_worthOf_s4
      dsimp only
      have e1 : nI k * 3 = nI (3 * k) := by rw [show (3 : Int32) = nI 3 from rfl, i_mul, Nat.mul_comm]
      have e2 : nI (3 * k) + 1 = nI (3 * k + 1) := i_add _ 1
      have e3 : nI (3 * k) + 2 = nI (3 * k + 2) := i_add _ 2
      rw [hq.2.1, if_neg (show ¬ nI P ≤ nI k from nI_ge hk (by omega)), e1, e2, e3, e_atN (by decide) _ (by omega), bs, e_atN (by decide) _ (by omega), bs, i_s, hq.2.2.2.1 _ (by omega), hq.2.2.2.1 _ (by omega)]
      by_cases h : bt s k = 1
      · rw [if_pos h, if_pos h]
      · rw [if_neg h, if_neg h])
    (fun x => by
      unfold mX3_worthOf_s4
      dsimp only
      rw [hq.2.1, if_pos (Int32.le_refl _)]
      rfl)
  exact (congrArg (fun o => Option.bind o fun e => some e) e).trans rfl
theorem e_cw6 {v : KS} {P : Nat} (hP : P ≤ 6) (hb : gR v 0 2 = nI P) (c1 c2 c3 c4 s : Int32) : lpF (mX6_takes_s49 v c1 c2 c3 c4 s) (0, 0, 0) = some (cst (gR v 0) s P, wth (gR v 0) s P) := by
  have e := lp_fd0 (S := mX6_takes_s49 v c1 c2 c3 c4 s) (fun k (x : Int32 × Int32) => (x.1, x.2, nI k)) (fun p x => (if bt s p = 1 then x.1 + gR v 0 (60 + 3 * p) else x.1, if bt s p = 1 then x.2 + gR v 0 (60 + (3 * p + 1)) * gR v 0 (60 + (3 * p + 2)) else x.2)) id P (0, 0)
    (fun k x hk => by
      unfold mX6_takes_s49
      dsimp only
      have e1 : (60 : Int32) + 3 * nI k = nI (60 + 3 * k) := by rw [show (3 : Int32) = nI 3 from rfl, i_mul, show (60 : Int32) = nI 60 from rfl, i_add]
      have e2 : nI (60 + 3 * k) + 1 = nI (60 + (3 * k + 1)) := i_add _ 1
      have e3 : nI (60 + 3 * k) + 2 = nI (60 + (3 * k + 2)) := i_add _ 2
      rw [c_2, hb, if_neg (show ¬ nI P ≤ nI k from nI_ge hk (by omega)), e1, e2, e3, gd_t (i_k (by omega) (by decide)), gd_t (i_k (by omega) (by decide)), gd_t (i_k (by omega) (by decide)), i_cl (by omega), i_cl (by omega), i_cl (by omega), i_s]
      rcases i_bit (s >>> (nI k &&& 31)) with h | h
      · have h9 : ¬ bt s k = 1 := by
          show ¬ (s >>> (nI k &&& 31)) &&& 1 = 1
          rw [h]; decide
        rw [h, if_neg h9, if_neg h9, Int32.zero_mul, Int32.zero_mul, Int32.zero_mul, Int32.add_zero, Int32.add_zero]
      · rw [h, if_pos h, if_pos h, Int32.one_mul, Int32.one_mul])
    (fun x => by
      unfold mX6_takes_s49
      dsimp only
      rw [c_2, hb, if_pos (Int32.le_refl _)]
      rfl)
  have key : ∀ p, fd (fun p (x : Int32 × Int32) => (if bt s p = 1 then x.1 + gR v 0 (60 + 3 * p) else x.1, if bt s p = 1 then x.2 + gR v 0 (60 + (3 * p + 1)) * gR v 0 (60 + (3 * p + 2)) else x.2)) p (0, 0) = (cst (gR v 0) s p, wth (gR v 0) s p) := by
    intro p
    induction p with
    | zero => rfl
    | succ p ih => rw [fd_s, ih]; rfl
  rw [key] at e
  exact e
theorem sh_P {P : Nat} (hP : P ≤ 6) : (((1 : Int32) <<< (nI P &&& 31)) : Int32) ≤ 64 := by
  rcases (show P = 0 ∨ P = 1 ∨ P = 2 ∨ P = 3 ∨ P = 4 ∨ P = 5 ∨ P = 6 by omega) with h | h | h | h | h | h | h <;> subst h <;> decide
theorem lm_takes : LM_takes Rel := by
  intro u k0 k1 v a1 hR
  have hR' := hR
  obtain ⟨L, K, P, ⟨hT, hS, hp, hm, hl, hq⟩, h0, h1, hf, hF, hC⟩ := hR
  have hP := hq.1
  by_cases c : 0 ≤ a1.toInt ∧ a1.toInt ≤ 999
  · have hS5 : mX5_takes_s26 u a1 = mX6_takes_s27 v a1 := by
      funext s
      unfold mX5_takes_s26 mX6_takes_s27
      rw [hq.2.1, c_2, hq.2.2.1, e_cost5 hq, bs, e_worth5 hq, bs, e_cw6 hP hq.2.2.1, bs]
    have hend : Ok (lpF (mX6_takes_s27 v a1) (0, 0, 0, 1)) (fun _ => True) := by
      refine ok_lp (fun s => 0 ≤ s.2.2.2.toInt) (fun s => (64 - s.2.2.2.toInt).toNat) (by decide) (fun s hs => ?_)
      unfold mX6_takes_s27
      rw [c_2, hq.2.2.1, e_cw6 hP hq.2.2.1, bs]
      have h64 := sh_P hP
      by_cases g : (((1 : Int32) <<< (nI P &&& 31)) : Int32) ≤ s.2.2.2
      · rw [if_pos g]
        exact ok_ret (Or.inl ⟨_, rfl, trivial⟩)
      · rw [if_neg g]
        have g1 : s.2.2.2.toInt < 64 := by
          rw [z_le] at g h64
          have : (64 : Int32).toInt = 64 := rfl
          omega
        have g2 : (s.2.2.2 + 1).toInt = s.2.2.2.toInt + 1 := z_addc (by show (-2147483648 : Int) ≤ _ + 1; omega) (by show _ + 1 < (2147483648 : Int); omega)
        repeat' split
        all_goals exact ok_ret (Or.inr ⟨_, rfl, by show 0 ≤ (s.2.2.2 + 1).toInt; omega, by show (64 - (s.2.2.2 + 1).toInt).toNat < _; omega⟩)
    obtain ⟨r, hr, -⟩ := hend
    refine ⟨r, u, v, ?_, ?_, hR', rfl⟩
    · unfold mX5_takes
      rw [if_neg (by (simp only [z_lt, z_le, z_gt, z_ge, z_eq, zm1, zm2, Int32.reduceToInt] at *; omega)), if_pos (by (simp only [z_lt, z_le, z_gt, z_ge, z_eq, zm1, zm2, Int32.reduceToInt] at *; omega)), hS5, hr]
      rfl
    · unfold mX6_takes
      rw [e_inc a1 0 999 (l := 0) (h := 999) rfl rfl, if_pos c, bs, if_neg (by decide), hr]
      rfl
  · refine lm_b hR' (j := 0) (by decide) (-2) ?_ ?_
    · unfold mX5_takes
      simp only [e_bad5, bs]
      by_cases h2 : a1 < 0
      · rw [if_pos h2]
      · rw [if_neg h2, if_neg (by (simp only [z_lt, z_le, z_gt, z_ge, z_eq, zm1, zm2, Int32.reduceToInt] at *; omega))]
    · unfold mX6_takes
      rw [e_inc a1 0 999 (l := 0) (h := 999) rfl rfl, if_neg c, bs, if_pos rfl, e_bad6]
      rfl
