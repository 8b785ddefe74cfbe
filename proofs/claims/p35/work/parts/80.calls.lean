/-! the class alone: what is typed, put, looked at, the faults; images, the digest -/
section CALLS5
variable {u : KS} {b : Nat → Int32} {L K : Nat} {O : Nat → Option Nat}
theorem s_type (h : RC u b L K O) (c : Int64) {n : Nat} (h1 : 1 ≤ n) (h8 : n ≤ 8) (hL : L + n ≤ 120) : ∃ u' b', mX5_type u c (nI n) = some (nI (L + n), u') ∧ RC u' b' (L + n) K O ∧ (∀ i, i < L → tx b' i = tx b i) ∧ (∀ i, i < n → tx b' (L + i) = ty_b c (tcn n i)) ∧ (∀ j, j ≠ 0 → j < 80 → b' j = b j) := by
  obtain ⟨⟨hT, hS, hp, hm, hl, hq⟩, hC, h3, h4, h5⟩ := h
  have zn : (nI n).toInt = (n : Int) := z_nN (by omega)
  have e120 : (nI (L + n) ≤ 120) ↔ L + n ≤ 120 := by rw [show (120 : Int32) = nI 120 from rfl]; exact nI_leI (by omega) (by omega)
  have g5 : mX5_type u c (nI n) = some (nI (L + n), sI (sI (sR (sI u 2 (nI (L + n))) 1 (fd (fun j x => upd x (L + j) (ty_b c (tcn n j))) n (gR u 1))) 0 1) 1 1) := by
    unfold mX5_type
    rw [if_neg (by (simp only [z_lt, z_le, z_gt, z_ge, z_eq, zm1, zm2, Int32.reduceToInt] at *; omega)), if_pos (by (simp only [z_lt, z_le, z_gt, z_ge, z_eq, zm1, zm2, Int32.reduceToInt] at *; omega)), hT.2.1, i_add, if_pos (e120.mpr hL), e_ty5 hT.2.1 h8 hL, bs]
    rfl
  have hK8 := hl.1
  obtain ⟨b', hb⟩ : ∃ b', b' = fd (ty_g c n L) n b := ⟨_, rfl⟩
  have n0 : b' 0 = nI (L + n) := by rw [hb, ty_c, if_pos rfl, if_neg (by omega)]
  have no : ∀ j, j ≠ 0 → j < 80 → b' j = b j := fun j q1 q2 => by rw [hb, ty_c, if_neg q1, if_neg (by omega)]
  have e1 : ∀ i, b' (80 + i) = if L ≤ i ∧ i < L + n then ty_b c (tcn n (i - L)) else b (80 + i) := by
    intro i
    rw [hb, ty_c, if_neg (by omega)]
    by_cases q : L ≤ i ∧ i < L + n
    · rw [if_pos (by omega), if_pos q, show 80 + i - 80 - L = i - L by omega]
    · rw [if_neg (by omega), if_neg q]
  refine ⟨_, b', g5, ⟨⟨⟨hL, rfl, n0, fun i hi => ?_⟩, Ks_cg hS rfl (fun i hi => no _ (by omega) (by omega)), Kp_cg hp rfl (fun i hi => no _ (by omega) (by omega)), Km_cg hm rfl (fun i hi => no _ (by omega) (by omega)), Kl_cg hl rfl rfl (no _ (by omega) (by omega)) (fun i hi => no _ (by omega) (by omega)), Kq_cg hq rfl rfl (no _ (by omega) (by omega)) (fun i hi => absurd hi (by omega))⟩, ⟨Or.inl rfl, Or.inl rfl⟩, h3, h4, h5⟩, fun i hi => ?_, fun i hi => ?_, no⟩
  · show fd (fun j x => upd x (L + j) (ty_b c (tcn n j))) n (gR u 1) i = b' (80 + i) ∧ 0 ≤ (b' (80 + i)).toInt ∧ (b' (80 + i)).toInt < 256
    rw [e1, fd_up L (fun j => ty_b c (tcn n j))]
    by_cases q : L ≤ i ∧ i < L + n
    · rw [if_pos q, if_pos q]
      exact ⟨rfl, and255 _⟩
    · rw [if_neg q, if_neg q]
      exact hT.2.2.2 i (by omega)
  · show b' (80 + i) = b (80 + i)
    rw [e1, if_neg (by omega)]
  · show b' (80 + (L + i)) = _
    rw [e1, if_pos (by omega), Nat.add_sub_cancel_left]
theorem s_put (h : RC u b L K O) {j : Nat} {x : Int32} (hj : j < 4) (c : vPut (nI j) x) : ∃ u', mX5_put u (nI j) x = some (b (4 + j), u') ∧ RC u' (upd b (4 + j) x) L K O := by
  obtain ⟨⟨hT, hS, hp, hm, hl, hq⟩, hC, h3, h4, h5⟩ := h
  have zj : (nI j).toInt = (j : Int) := z_nN (by omega)
  have e := e_put5T (u := u) c
  rw [zj, show ((j : Int)).toNat = j from rfl, hS.1 j hj] at e
  unfold vPut at c
  rw [zj] at c
  have hL8 := hl.1
  have no : ∀ i, i ≠ 4 + j → upd b (4 + j) x i = b i := fun i hi => u_no _ _ _ hi
  refine ⟨_, e, ⟨⟨Kt_cg hT rfl rfl (no _ (by omega)) (fun i hi => no _ (by omega)), ?_, Kp_cg hp rfl (fun i hi => no _ (by omega)), Km_cg hm rfl (fun i hi => no _ (by omega)), Kl_cg hl rfl rfl (no _ (by omega)) (fun i hi => no _ (by omega)), Kq_cg hq rfl rfl (no _ (by omega)) (fun i hi => no _ (by omega))⟩, ⟨Or.inl rfl, Or.inl rfl⟩, h3, h4, h5⟩⟩
  have key : ∀ i, i < 4 → upd b (4 + j) x (4 + i) = if i = j then x else b (4 + i) := by
    intro i hi
    by_cases h : i = j
    · subst h; rw [u_is, if_pos rfl]
    · rw [no _ (by omega), if_neg h]
  have q0 := key 0 (by decide)
  have q1 := key 1 (by decide)
  have q2 := key 2 (by decide)
  have q3 := key 3 (by decide)
  refine ⟨fun i hi => ?_, ?_, ?_, ?_, ?_⟩
  · rw [key i hi]
    show upd (gR u 2) j x i = _
    rw [u_s, hS.1 i hi]
  · rw [show (4 : Nat) = 4 + 0 from rfl, q0]; have := hS.2.1; split <;> omega
  · rw [show (5 : Nat) = 4 + 1 from rfl, q1]; have := hS.2.2.1; split <;> omega
  · rw [show (6 : Nat) = 4 + 2 from rfl, q2]; have := hS.2.2.2.1; split <;> omega
  · rw [show (7 : Nat) = 4 + 3 from rfl, q3]; have := hS.2.2.2.2; split <;> omega
theorem s_prior (h : RC u b L K O) {k v : Nat} (hk : k < 7) (hv : v ≤ 9) : ∃ u', mX5_prior u (nI k) (nI v) = some (b (8 + k), u') ∧ RC u' (upd b (8 + k) (nI v)) L K O := by
  obtain ⟨⟨hT, hS, hp, hm, hl, hq⟩, hC, h3, h4, h5⟩ := h
  have zk : (nI k).toInt = (k : Int) := z_nN (by omega)
  have zv : (nI v).toInt = (v : Int) := z_nN (by omega)
  have e := e_prior5 u (nI k) (nI v)
  rw [if_pos (by omega), zk, show ((k : Int)).toNat = k from rfl, (hp k hk).1] at e
  have hL8 := hl.1
  have no : ∀ i, i ≠ 8 + k → upd b (8 + k) (nI v) i = b i := fun i hi => u_no _ _ _ hi
  refine ⟨_, e, ⟨⟨Kt_cg hT rfl rfl (no _ (by omega)) (fun i hi => no _ (by omega)), Ks_cg hS rfl (fun i hi => no _ (by omega)), fun i hi => ?_, Km_cg hm rfl (fun i hi => no _ (by omega)), Kl_cg hl rfl rfl (no _ (by omega)) (fun i hi => no _ (by omega)), Kq_cg hq rfl rfl (no _ (by omega)) (fun i hi => no _ (by omega))⟩, ⟨?_, Or.inl rfl⟩, h3, h4, h5⟩⟩
  · show upd (gR u 3) k (nI v) i = upd b (8 + k) (nI v) (8 + i) ∧ 0 ≤ (upd b (8 + k) (nI v) (8 + i)).toInt ∧ (upd b (8 + k) (nI v) (8 + i)).toInt ≤ 9
    by_cases hi2 : i = k
    · subst hi2; rw [u_is, u_is]; exact ⟨rfl, by omega, by omega⟩
    · rw [u_no _ _ _ hi2, u_no _ _ _ (show 8 + i ≠ 8 + k by omega)]; exact hp i hi
  · show _ ∨ (_ ∧ DayOk _ (tx (upd b (8 + k) (nI v))) L (nat (upd b (8 + k) (nI v) 4)))
    rw [tx_up (by omega), no 4 (by omega)]
    exact hC.1
theorem s_look (h : RC u b L K O) (hK : K < 8) {a1 a2 a3 a4 : Int32} (c : vLook a1 a2 a3 a4) : ∃ u' b', mX5_look u a1 a2 a3 a4 = some (nI K, u') ∧ RC u' b' L (K + 1) O ∧ (∀ j, j ≠ 1 → j < 20 ∨ 60 ≤ j → b' j = b j) := by
  obtain ⟨⟨hT, hS, hp, hm, hl, hq⟩, hC, h3, h4, h5⟩ := h
  have e5 := e_look5T (u := u) hl.2.1 hl.1 c
  rw [if_neg (by omega)] at e5
  unfold vLook at c
  obtain ⟨b', hb⟩ : ∃ b', b' = upd (upd (upd (upd (upd b (20 + 4 * K) a1) (20 + 4 * K + 1) a2) (20 + 4 * K + 2) a3) (20 + 4 * K + 3) a4) 1 (nI (K + 1)) := ⟨_, rfl⟩
  have n1 : b' 1 = nI (K + 1) := by rw [hb, u_is]
  have no : ∀ j, j ≠ 1 → j < 20 + 4 * K ∨ 20 + 4 * K + 4 ≤ j → b' j = b j := fun j h1 h2 => by
    rw [hb, u_no _ _ _ h1, u_no _ _ _ (by omega), u_no _ _ _ (by omega), u_no _ _ _ (by omega), u_no _ _ _ (by omega)]
  have nl : ∀ i, i < 4 * K + 4 → upd (upd (upd (upd (gR u 5) (4 * K) a1) (4 * K + 1) a2) (4 * K + 2) a3) (4 * K + 3) a4 i = b' (20 + i) := fun i hi => by
    rw [up4 (gR u 5) b (4 * K) 20 a1 a2 a3 a4 hl.2.2.2.1 i hi, hb, u_no 1 _ _ (by omega)]
  have n4 : ∀ i, i < 4 * K → b' (20 + i) = b (20 + i) := fun i hi => by
    rw [← nl i (by omega), u_no _ _ _ (by omega), u_no _ _ _ (by omega), u_no _ _ _ (by omega), u_no _ _ _ (by omega), hl.2.2.2.1 i hi]
  refine ⟨_, b', e5, ⟨⟨Kt_cg hT rfl rfl (no 0 (by omega) (by omega)) (fun i hi => no _ (by omega) (by omega)), Ks_cg hS rfl (fun i hi => no _ (by omega) (by omega)), Kp_cg hp rfl (fun i hi => no _ (by omega) (by omega)), Km_cg hm rfl (fun i hi => no _ (by omega) (by omega)), ⟨by omega, rfl, n1, fun i hi => nl i (by omega), fun i hi => ?_⟩, Kq_cg hq rfl rfl (no 2 (by omega) (by omega)) (fun i hi => absurd hi (by omega))⟩, ⟨?_, Or.inl rfl⟩, h3, h4, h5⟩, fun j q1 q2 => no j q1 (by omega)⟩
  · show (0 ≤ (b' (20 + 4 * i)).toInt ∧ (b' (20 + 4 * i)).toInt < 120) ∧ (0 ≤ (b' (20 + (4 * i + 1))).toInt ∧ (b' (20 + (4 * i + 1))).toInt ≤ 3) ∧ (-1 ≤ (b' (20 + (4 * i + 2))).toInt ∧ (b' (20 + (4 * i + 2))).toInt ≤ 3) ∧ 0 ≤ (b' (20 + (4 * i + 3))).toInt ∧ (b' (20 + (4 * i + 3))).toInt ≤ 2
    by_cases hi2 : i = K
    · subst hi2
      rw [← nl (4 * i) (by omega), ← nl (4 * i + 1) (by omega), ← nl (4 * i + 2) (by omega), ← nl (4 * i + 3) (by omega)]
      rw [u_is, u_no (4 * i + 3) _ _ (show 4 * i ≠ 4 * i + 3 by omega), u_no (4 * i + 2) _ _ (show 4 * i ≠ 4 * i + 2 by omega), u_no (4 * i + 1) _ _ (show 4 * i ≠ 4 * i + 1 by omega), u_is, u_no (4 * i + 3) _ _ (show 4 * i + 1 ≠ 4 * i + 3 by omega), u_no (4 * i + 2) _ _ (show 4 * i + 1 ≠ 4 * i + 2 by omega), u_is, u_no (4 * i + 3) _ _ (show 4 * i + 2 ≠ 4 * i + 3 by omega), u_is]
      omega
    · rw [n4 (4 * i) (by omega), n4 (4 * i + 1) (by omega), n4 (4 * i + 2) (by omega), n4 (4 * i + 3) (by omega)]
      exact hl.2.2.2.2 i (by omega)
  · show _ ∨ (_ ∧ DayOk _ (tx b') L (nat (b' 4)))
    rw [no 4 (by omega) (by omega), show tx b' = tx b from funext fun i => no _ (by omega) (by omega)]
    exact hC.1
theorem s_fault (h : RC u b L K O) {c k d : Nat} (hc : c < 4) (hk : k < 7) (h1 : 1 ≤ d) (h3 : d ≤ 3) : ∃ u', mX5_fault u (nI c) (nI k) (nI d) = some (1, u') ∧ RC u' (upd b (15 + c) (nI (3 * k + (d - 1)))) L K O := by
  have zc : (nI c).toInt = (c : Int) := z_nN (by omega)
  have zk : (nI k).toInt = (k : Int) := z_nN (by omega)
  have zd : (nI d).toInt = (d : Int) := z_nN (by omega)
  obtain ⟨z, hx, e5⟩ := e_fault5T (u := u) (a1 := nI c) (a2 := nI k) (a3 := nI d) (by unfold vFault; omega)
  rw [if_neg (by omega), show (3 : Int32) = nI 3 from rfl, show (1 : Int32) = nI 1 from rfl, i_mul, i_add, i_sub (by omega) (by omega), show 3 * k + d - 1 = 3 * k + (d - 1) by omega] at hx
  subst hx
  rw [zc, show ((c : Int)).toNat = c from rfl] at e5
  obtain ⟨⟨hT, hS, hp, hm, hl, hq⟩, hC, h3', h4, h5⟩ := h
  have hL8 := hl.1
  have no : ∀ j, j < 15 ∨ 19 ≤ j → upd b (15 + c) (nI (3 * k + (d - 1))) j = b j := fun j h => u_no _ _ _ (by omega)
  have zf : (nI (3 * k + (d - 1))).toInt = ((3 * k + (d - 1) : Nat) : Int) := z_nN (by omega)
  refine ⟨_, e5, ⟨⟨Kt_cg hT rfl rfl (no _ (by omega)) (fun i hi => no _ (by omega)), Ks_cg hS rfl (fun i hi => no _ (by omega)), Kp_cg hp rfl (fun i hi => no _ (by omega)), fun i hi => ?_, Kl_cg hl rfl rfl (no _ (by omega)) (fun i hi => no _ (by omega)), Kq_cg hq rfl rfl (no _ (by omega)) (fun i hi => no _ (by omega))⟩, ⟨?_, ?_⟩, h3', h4, h5⟩⟩
  · show upd (gR u 4) c (nI (3 * k + (d - 1))) i = upd b (15 + c) (nI (3 * k + (d - 1))) (15 + i) ∧ -1 ≤ (upd b (15 + c) (nI (3 * k + (d - 1))) (15 + i)).toInt ∧ (upd b (15 + c) (nI (3 * k + (d - 1))) (15 + i)).toInt ≤ 20
    by_cases hi2 : i = c
    · subst hi2; rw [u_is, u_is]; exact ⟨rfl, by omega, by omega⟩
    · rw [u_no _ _ _ hi2, u_no _ _ _ (show 15 + i ≠ 15 + c by omega)]; exact hm i hi
  · generalize hb : upd b (15 + c) (nI (3 * k + (d - 1))) = b'
    rw [hb] at no
    show _ ∨ (_ ∧ DayOk _ (tx b') L (nat (b' 4)))
    rw [no 4 (by omega), show tx b' = tx b from funext fun i => no _ (by omega)]
    exact hC.1
  · generalize hb : upd b (15 + c) (nI (3 * k + (d - 1))) = b'
    rw [hb] at no
    have e1 : tx b' = tx b := funext fun i => no _ (by omega)
    rcases hC.2 with h9 | ⟨h9, h10, D, h11, h12⟩
    · exact Or.inl h9
    · refine Or.inr ⟨h9, h10, D, by show day (tx b') L = _; rw [e1]; exact h11, ?_⟩
      show GsOk _ D (nat (b' 4)) (nat (b' 5)) (nat (b' 6)) (nat (b' 7)) (bpr b') (blk b') K
      rw [no 4 (by omega), no 5 (by omega), no 6 (by omega), no 7 (by omega)]
      exact GsOk_cg h12 rfl rfl (fun i hi => by show nat (b' (8 + i)) = _; rw [no _ (by omega)]) (fun i hi => by show (b' (20 + i)).toInt = _; rw [no _ (by omega)])
theorem s_clear (h : RC u b L K O) : ∃ u', mX5_clear u = some (nI L, u') ∧ RC u' (upd b 0 0) 0 K O := by
  obtain ⟨⟨hT, hS, hp, hm, hl, hq⟩, hC, h3, h4, h5⟩ := h
  have no : ∀ i, i ≠ 0 → upd b 0 0 i = b i := fun i hi => u_no _ _ _ hi
  refine ⟨sI (sI (sI u 2 0) 0 1) 1 1, ?_, ⟨⟨⟨by decide, rfl, u_is _ _ _, fun i hi => absurd hi (by omega)⟩, Ks_cg hS rfl (fun i hi => no _ (by omega)), Kp_cg hp rfl (fun i hi => no _ (by omega)), Km_cg hm rfl (fun i hi => no _ (by omega)), Kl_cg hl rfl rfl (no _ (by omega)) (fun i hi => no _ (by omega)), Kq_cg hq rfl rfl (no _ (by omega)) (fun i hi => no _ (by omega))⟩, ⟨Or.inl rfl, Or.inl rfl⟩, h3, h4, h5⟩⟩
  rw [← hT.2.1]; rfl
theorem s_status2 (h : RC u b L K O) : mX5_status u 2 = some (0, u) := by
  unfold mX5_status
  rw [if_neg (by decide), if_pos (by decide), gd_t (by decide)]
  show some (gR u 0 2, u) = _
  rw [h.2.2.1]
/-- what the digest is of -/
def dgV (b : Nat → Int32) (L K x y : Nat) : Int64 := mxd (fun i => nI (lb y i)) (lc y) (mxd (fun i => nI (lb x i)) (lc x) (fd (fun k z => 31 * z + ((if k = 0 then (if lc x = 0 then (0 : Int32) else 1) else if k = 1 then nI (lc x) else nI (lc y)) : Int32).toInt64) 3 (mxd (fun i => b (20 + i)) (K * 4) (mxd (fun i => b (15 + i)) 4 (mxd (fun i => b (8 + i)) 7 (mxd (fun i => b (4 + i)) 4 (mxd (fun i => b (80 + i)) L (fd (fun k z => 31 * z + ((if k = 0 then nI L else if k = 1 then nI K else if k = 2 then nI 0 else fcn b 0) : Int32).toInt64) 4 577))))))))
theorem s_digest (h : RC u b L K O) {x y : Nat} (hF : FX u x y) : mX5_digest u = some (dgV b L K x y) := by
  obtain ⟨⟨hT, hS, hp, hm, hl, hq⟩, -⟩ := h
  obtain ⟨s0, s1, s2⟩ := fx_sign hF
  have hk := hF.2
  have lx := lc_le x
  have ly := lc_le y
  have hL := hT.1
  have hK := hl.1
  obtain ⟨cv, hcv⟩ : ∃ cv : Nat → Int32, cv = fun k => if k = 0 then nI L else if k = 1 then nI K else if k = 2 then nI 0 else fcn b 0 := ⟨_, rfl⟩
  have hc : ∀ k, k < 4 → mX3_countOf u (nI k) = some (cv k) := by
    intro k hk4
    rw [hcv]
    rcases (show k = 0 ∨ k = 1 ∨ k = 2 ∨ k = 3 by omega) with h | h | h | h <;> subst h
    · rw [← hT.2.1]; rfl
    · rw [← hl.2.1]; rfl
    · rw [← hq.2.1]; rfl
    · unfold mX3_countOf
      rw [if_neg (by decide), if_neg (by decide), if_neg (by decide), e_fcount5 hm]
      rfl
  have d6 : lpF (mX5_digest_s6 u) (577, 0) = some (fd (fun k z => 31 * z + (cv k).toInt64) 4 577) :=
    lp_fd0 (S := mX5_digest_s6 u) (fun k (z : Int64) => (z, nI k)) (fun k z => 31 * z + (cv k).toInt64) id 4 577
      (fun k z hk => by
        unfold mX5_digest_s6
        dsimp only
        rw [if_neg (show ¬ (3 : Int32) < nI k from nI_nlt (a := 3) (by omega) (by decide)), hc k hk, bs, i_s])
      (fun z => by
        unfold mX5_digest_s6
        dsimp only
        rw [if_pos (by decide)]
        rfl)
  obtain ⟨sv, hsv⟩ : ∃ sv : Nat → Int32, sv = fun k => if k = 0 then (if lc x = 0 then 0 else 1) else if k = 1 then nI (lc x) else nI (lc y) := ⟨_, rfl⟩
  have hs : ∀ k, k < 3 → mX5_signOf u (nI k) = some (sv k) := by
    intro k hk3
    rw [hsv]
    rcases (show k = 0 ∨ k = 1 ∨ k = 2 by omega) with h | h | h <;> subst h
    · exact s0
    · exact s1
    · exact s2
  have d136 : ∀ z0 : Int64, lpF (mX5_digest_s136 u) (z0, 0) = some (fd (fun k z => 31 * z + (sv k).toInt64) 3 z0) := fun z0 =>
    lp_fd0 (S := mX5_digest_s136 u) (fun k (z : Int64) => (z, nI k)) (fun k z => 31 * z + (sv k).toInt64) id 3 z0
      (fun k z hk => by
        unfold mX5_digest_s136
        dsimp only
        rw [if_neg (show ¬ (2 : Int32) < nI k from nI_nlt (a := 2) (by omega) (by decide)), hs k hk, bs, i_s])
      (fun z => by
        unfold mX5_digest_s136
        dsimp only
        rw [if_pos (by decide)]
        rfl)
  have d170 : ∀ (j w z : Nat) (z0 : Int64), j < 2 → w ≤ 3 → mX5_signOf u (nI j + 1) = some (nI w) → (∀ k, k < 3 → gA u (2 + j) k = lN (lb z k)) → lpF (mX5_digest_s170 u (nI j)) (z0, 0) = some (mxd (fun i => nI (lb z i)) w z0) := by
    intro j w z z0 hj hw hs2 hA
    refine lp_fd0 (S := mX5_digest_s170 u (nI j)) (fun k (z : Int64) => (z, nI k)) (fun k x => 31 * x + (nI (lb z k)).toInt64) id w z0 ?_ ?_
    · intro k q hk2
      have e1 : mX1_limbOf u (nI j) (nI k) = some (nI (lb z k)) := by
        have hlb := lb_lt z k
        unfold mX1_limbOf
        rcases (show j = 0 ∨ j = 1 by omega) with hj0 | hj0
        · subst hj0
          rw [if_pos (by decide), e_atN_ (by decide) _ (by omega), bs, show gA u 2 = gA u (2 + 0) from rfl, hA _ (by omega), lN_i32 (by omega)]
        · subst hj0
          rw [if_neg (by decide), e_atN_ (by decide) _ (by omega), bs, show gA u 3 = gA u (2 + 1) from rfl, hA _ (by omega), lN_i32 (by omega)]
      unfold mX5_digest_s170
      dsimp only
      rw [hs2, bs, if_neg (show ¬ nI w ≤ nI k from nI_ge hk2 (by omega)), e1, bs, i_s]
    · intro q
      unfold mX5_digest_s170
      dsimp only
      rw [hs2, bs, if_pos (Int32.le_refl _)]
      rfl
  have d162 : ∀ z0 : Int64, lpF (mX5_digest_s162 u) (z0, 0) = some (mxd (fun i => nI (lb y i)) (lc y) (mxd (fun i => nI (lb x i)) (lc x) z0)) := by
    intro z0
    have a0 : mX5_digest_s162 u (z0, 0) = some (.inr (mxd (fun i => nI (lb x i)) (lc x) z0, 1)) := by
      unfold mX5_digest_s162
      dsimp only
      have h9 : lpF (mX5_digest_s170 u 0) (z0, 0) = _ := d170 0 (lc x) x z0 (by decide) lx s1 (fun k hk3 => (hk k hk3).1)
      rw [if_neg (by decide), h9]
      rfl
    have a1 : ∀ z1 : Int64, mX5_digest_s162 u (z1, 1) = some (.inr (mxd (fun i => nI (lb y i)) (lc y) z1, 2)) := by
      intro z1
      unfold mX5_digest_s162
      dsimp only
      have h9 : lpF (mX5_digest_s170 u 1) (z1, 0) = _ := d170 1 (lc y) y z1 (by decide) ly s2 (fun k hk3 => (hk k hk3).2)
      rw [if_neg (by decide), h9]
      rfl
    have a2 : ∀ z1 : Int64, mX5_digest_s162 u (z1, 2) = some (.inl z1) := by
      intro z1
      unfold mX5_digest_s162
      dsimp only
      rw [if_pos (by decide)]
    rw [lp_go a0, lp_go (a1 _), lp_stop (a2 _)]
  have g5 : mX5_digest u = some (mxd (fun i => nI (lb y i)) (lc y) (mxd (fun i => nI (lb x i)) (lc x) (fd (fun k z => 31 * z + (sv k).toInt64) 3 (mxd (gR u 6) (0 * 3) (mxd (gR u 5) (K * 4) (mxd (gR u 4) 4 (mxd (gR u 3) 7 (mxd (gR u 2) 4 (mxd (gR u 1) L (fd (fun k z => 31 * z + (cv k).toInt64) 4 577)))))))))) := by
    unfold mX5_digest
    rw [d6, bs, hT.2.1, e_mixed5 _ _ hL (by decide), bs]
    rw [show (4 : Int32) = nI 4 from rfl, e_mixed5 _ _ (by decide) (by decide), bs]
    rw [show (7 : Int32) = nI 7 from rfl, e_mixed5 _ _ (by decide) (by decide), bs]
    rw [e_mixed5 _ _ (by decide) (by decide), bs]
    rw [hl.2.1, i_mul, e_mixed5 _ _ (by omega) (by decide), bs]
    rw [hq.2.1, show (3 : Int32) = nI 3 from rfl, i_mul, e_mixed5 _ _ (by omega) (by decide), bs]
    rw [d136, bs, d162]
    rfl
  have z0 : ∀ (f : Nat → Int32) (h : Int64), mxd f (0 * 3) h = h := fun _ _ => rfl
  rw [g5, z0]
  unfold dgV
  rw [hcv, hsv, mxd_cg (f := gR u 1) (g := fun i => b (80 + i)) (fun i hi => (hT.2.2.2 i hi).1), mxd_cg (f := gR u 2) (g := fun i => b (4 + i)) (fun i hi => hS.1 i hi), mxd_cg (f := gR u 3) (g := fun i => b (8 + i)) (fun i hi => (hp i hi).1), mxd_cg (f := gR u 4) (g := fun i => b (15 + i)) (fun i hi => (hm i hi).1), mxd_cg (f := gR u 5) (g := fun i => b (20 + i)) (fun i hi => hl.2.2.2.1 i (by omega))]
theorem s_image (h : RC u b L K O) : ∃ k, mX3_become (kJ kkept u) = some k ∧ RK k b L K 0 := by
  obtain ⟨res, e5, q1, q2, q3, q4, q5, q6, q7⟩ := e_become kkept u
  exact ⟨res, e5, RK_ag h.1 q1 q2 q3 q4 q5 q6 q7 (fun i hi => rfl)⟩
theorem s_fromS {k : KS} {b1 : Nat → Int32} {L1 K1 : Nat} (h : RC u b1 L1 K1 O) (hk : RK k b L K 0) : ∃ u', mX5_fromS u k = some (1, u') ∧ RC u' b L K O ∧ (∀ x y, FX u x y → FX u' x y) := by
  obtain ⟨r, e5, e5', q1, q2, q3, q4, q5, q6, q7⟩ := e_fromS (u := u) (k := k)
  obtain ⟨h1, h2, h3, h4, h5⟩ := h
  exact ⟨_, e5', ⟨RK_ag hk q1 q2 q3 q4 q5 q6 q7 (fun i hi => rfl), ⟨Or.inl rfl, Or.inl rfl⟩, h3, h4, h5⟩, fun x y hF => hF⟩
end CALLS5
