/-! the law from the day by cells to the image -/
theorem sel_0 (W : Nat → Nat) (S : Nat → Bool) : ∀ n, (∀ g, g < n → S g = false) → sel W S n = 0 := by
  intro n
  induction n with
  | zero => intro _; rfl
  | succ n ih =>
    intro h
    show sel W S n + (if S n then W n else 0) = 0
    rw [ih (fun g hg => h g (by omega)), h n (Nat.lt_succ_self n)]
    rfl
theorem sel_1 (W : Nat → Nat) (S : Nat → Bool) : ∀ n, (∀ g, g < n → S g = true) → sel W S n = sm W n := by
  intro n
  induction n with
  | zero => intro _; rfl
  | succ n ih =>
    intro h
    show sel W S n + (if S n then W n else 0) = sm W n + W n
    rw [ih (fun g hg => h g (by omega)), h n (Nat.lt_succ_self n), if_pos rfl]
theorem and128 : ∀ r, r < 128 → nI r &&& (-128) = 0 := by decide +kernel
section LB
variable {sa : Nat → Nat} {b : Nat → Int32} {L K : Nat} {O : Nat → Option Nat} {D : List (Nat × Nat)} {F : Nat → Int32}
theorem j1055 (hsa : sa 11 ≤ 260) (hd : day (tx b) L = .inr D) {u : KS} (h : ST b L K O F u) (c6 : Int32) : ∃ u', mL_lawB_j1055 sa u c6 = some (c6, u') ∧ ST b L K O F u' := by
  obtain ⟨r, u1, p1, p2, p3⟩ := s_hidden h.1 hd
  have h1 := h.nx p3
  obtain ⟨a1, a2⟩ := e_cl hsa 24 (by decide)
  obtain ⟨d1, d2⟩ := e_cl hsa 25 (by decide)
  have a1' : mL_cell sa 24 = some (nI (cl sa 24)) := a1
  have d1' : mL_cell sa 25 = some (nI (cl sa 25)) := d1
  have m10 : nI (cl sa 24) - nI (cl sa 24) / 10 * 10 = nI (cl sa 24 % 10) := i_mod (n := 10) a2 (by decide)
  have s4 : nI (cl sa 24) >>> ((4 : Int32) &&& 31) = nI (cl sa 24 / 16) := i_shr (k := 4) a2 (by decide)
  have m3 : nI (cl sa 24 / 16) - nI (cl sa 24 / 16) / 3 * 3 = nI (cl sa 24 / 16 % 3) := i_mod (n := 3) (by omega) (by decide)
  have a3 : (1 : Int32) + nI (cl sa 24 / 16 % 3) = nI (1 + cl sa 24 / 16 % 3) := i_add 1 _
  have s2 : nI (cl sa 25) >>> ((2 : Int32) &&& 31) = nI (cl sa 25 / 4) := i_shr (k := 2) d2 (by decide)
  have m500 : nI (cl sa 25 / 4) - nI (cl sa 25 / 4) / 500 * 500 = nI (cl sa 25 / 4 % 500) := i_mod (n := 500) (by omega) (by decide)
  have s5 : nI (cl sa 25) >>> ((5 : Int32) &&& 31) = nI (cl sa 25 / 32) := i_shr (k := 5) d2 (by decide)
  have m2w : nI (cl sa 25 / 32) - nI (cl sa 25 / 32) / 20000 * 20000 = nI (cl sa 25 / 32 % 20000) := i_mod (n := 20000) (by omega) (by decide)
  have zl : (nI (cl sa 25 / 32 % 20000)).toInt = ((cl sa 25 / 32 % 20000 : Nat) : Int) := z_nN (by omega)
  obtain ⟨u2, q1, q2⟩ := l1111 (sa := sa) (c6 := c6) (l := cl sa 24 % 10) (d := 1 + cl sa 24 / 16 % 3) (by omega) (by omega) (by omega) 7 0 _ 0 1 rfl h1 (Or.inl ⟨rfl, rfl, rfl⟩)
  obtain ⟨u3, r1, r2⟩ := l1289 (sa := sa) (c6 := c6) (d := 1 + cl sa 24 / 16 % 3) (ω := cl sa 25 / 4 % 500) (loss := nI (cl sa 25 / 32 % 20000)) (by omega) (by omega) (by omega) (by omega) 5 0 _ 0 1 rfl q2 (Or.inl ⟨rfl, rfl, rfl⟩)
  have q1' : lpF (mL_lawB_s1111 sa c6 (nI (cl sa 24 % 10)) (nI (1 + cl sa 24 / 16 % 3))) (0, 1, 0, sR u1 20 (gR u 20)) = some u2 := q1
  have r1' : lpF (mL_lawB_s1289 sa c6 (nI (1 + cl sa 24 / 16 % 3)) (nI (cl sa 25 / 4 % 500)) (nI (cl sa 25 / 32 % 20000))) (0, 1, 0, u2) = some u3 := r1
  refine ⟨u3, ?_, r2⟩
  unfold mL_lawB_j1055
  rw [p1, bs]
  dsimp only
  rw [gd_t (and128 r p2), a1', bs, bs, m10, s4, m3, a3, q1', bs, d1', bs, bs, s2, m500, s5, m2w, r1', bs]
theorem j977 (hsa : sa 11 ≤ 260) (hd : day (tx b) L = .inr D) {u : KS} (h : ST b L K O F u) (c6 : Int32) {x : Int32} (hx : IB x) : ∃ u', mL_lawB_j977 sa u c6 x = some (c6, u') ∧ ST b L K O F u' := by
  obtain ⟨c, k, hc, hk, rfl⟩ := hx
  obtain ⟨u', p1, p2⟩ := j1055 hsa hd h c6
  have m10 : nI (10 * c + k) - nI (10 * c + k) / 10 * 10 = nI ((10 * c + k) % 10) := i_mod (n := 10) (by omega) (by decide)
  refine ⟨u', ?_, p2⟩
  unfold mL_lawB_j977
  rw [gd_t (nI_pos (by omega)), gd_t (show ¬ (40 : Int32) ≤ nI (10 * c + k) from nI_ge (b := 40) (by omega) (by decide)), m10, gd_t (show ¬ (5 : Int32) ≤ nI ((10 * c + k) % 10) from nI_ge (b := 5) (by omega) (by decide)), p1]
theorem j719T (hsa : sa 11 ≤ 260) (hd : day (tx b) L = .inr D) (hDl : D.length ≤ 60) (hT : TT D b K ≠ 0) {u : KS} (h : ST b L K O F u) {g : Nat} (hg : g < 2731) (hW : 0 < BW D b K g) : ∃ u', mL_lawB_j719 sa u (nI D.length) (nI g) 1 = some (nI D.length, u') ∧ ST b L K O F u' := by
  have hD := day_WD hd
  have hf := rc_f h.1
  obtain ⟨u1, p1, p2⟩ := l738 (sa := sa) (c6 := nI D.length) hd hT hg hW 4 0 u 1 rfl h (Nat.le_refl _)
  have p1' : lpF (mL_lawB_s738 sa (nI D.length) (nI g)) (1, 0, u) = some u1 := p1
  obtain ⟨u2, q1, q2, q3⟩ := s_leaks p2.1 hd hT (t := 0) (by decide)
  have h2 := p2.nx q2
  have q1' : mX5_leaks u1 0 = some (1, u2) := q1
  rw [sel_0 _ _ 2731 (fun g _ => by unfold lsS; exact decide_eq_false (Nat.not_lt_zero _)), Nat.zero_div] at q3
  have sg := s_sign0 (q3.row (gR u1 20))
  rw [if_pos rfl] at sg
  obtain ⟨u3, r1, r2, r3⟩ := s_leaks h2.1 hd hT (t := 99999) (by decide)
  have h3 := p2.nx r2
  have r1' : mX5_leaks (sR u2 20 (gR u1 20)) 99999 = some (1, u3) := r1
  rw [sel_1 _ _ 2731 (fun g hg => by
    unfold lsS
    refine decide_eq_true ?_
    have := am_le (e := bn D (nat (b 4))) (B := 12000) 4 (fun a ha => bn_le hD hf ha) hg
    omega)] at r3
  rw [Nat.gcd_self, Nat.div_self (Nat.pos_of_ne_zero hT)] at r3
  have is1 := s_is1 (r3.row (gR u1 20))
  have hss : ∀ v : KS, sR (sR v 20 (gR u1 20)) 20 (gR u1 20) = sR v 20 (gR u1 20) := fun v => sR_sR _ _ _ _
  have hs0 : ∀ v : KS, sR (sR v 20 (gR u1 20)) 20 (gR (sR v 20 (gR u1 20)) 20) = sR v 20 (gR u1 20) := fun v => sR_self _ 20
  have fin : ∃ u', (if nI D.length = 0 then mL_lawB_j977 sa (sR u3 20 (gR u1 20)) (nI D.length) 0 else (mX5_next (sR u3 20 (gR u1 20)) (nI D.length - 1)).bind fun r974 => mL_lawB_j977 sa (sR r974.2 20 (gR u1 20)) (nI D.length) r974.1) = some (nI D.length, u') ∧ ST b L K O F u' := by
    by_cases c : D.length = 0
    · rw [if_pos (show nI D.length = 0 by rw [c]; rfl)]
      exact j977 hsa hd h3 _ ⟨0, 0, by decide, by decide, rfl⟩
    · rw [if_neg (show ¬ nI D.length = (0 : Int32) from fun z => c ((nI_eq (a := D.length) (b := 0) (by omega) (by decide)).mp z))]
      obtain ⟨x, u4, t1, t2, t3⟩ := s_next h3.1 hd hT (m := D.length - 1) (by omega)
      rw [show (1 : Int32) = nI 1 from rfl, i_sub (by omega) (by omega), t1, bs]
      dsimp only
      exact j977 hsa hd (p2.nx t3) _ t2
  unfold mL_lawB_j719
  rw [if_pos rfl, p1', bs, q1', bs]
  dsimp only
  rw [gd_t rfl, sg, bs]
  dsimp only
  rw [gd_t rfl, hss, r1', bs]
  dsimp only
  rw [gd_t rfl, is1, bs]
  dsimp only
  rw [gd_t (show ¬ ((1 : Int32) = 0) by decide), hss]
  exact fin
theorem j719F (hsa : sa 11 ≤ 260) (hd : day (tx b) L = .inr D) (hT : TT D b K = 0) {u : KS} (h : ST b L K O F u) (c6 c11 : Int32) : ∃ u', mL_lawB_j719 sa u c6 c11 (-3) = some (c6, u') ∧ ST b L K O F u' := by
  obtain ⟨u1, p1, p2⟩ := s_odds0 h.1 hd hT (c := 0) (k := 0) (by decide) (by decide)
  have h1 := h.nx p2
  have p1' : mX5_odds u 0 0 = some (-3, u1) := p1
  obtain ⟨u2, q1, q2⟩ := s_leaks0 h1.1 hd hT (t := 5) (by decide)
  have h2 := h.nx q2
  have q1' : mX5_leaks (sR u1 20 (gR u 20)) 5 = some (-3, u2) := q1
  obtain ⟨u3, r1, r2⟩ := j1055 hsa hd h2 c6
  refine ⟨u3, ?_, r2⟩
  unfold mL_lawB_j719
  rw [if_neg (by decide), gd_t rfl, p1', bs]
  dsimp only
  rw [gd_t rfl, q1', bs]
  dsimp only
  rw [gd_t rfl, r1]
theorem e_lawB (hsa : sa 11 ≤ 260) (hd : day (tx b) L = .inr D) (hDl : D.length ≤ 60) {u : KS} (h : RC u b L K O) (hW : RW (gR u 20) D) (h4 : b 4 = nI (fst_ sa)) (hm : ∀ i, i < 4 → b (15 + i) = -1) : ∃ u' b', mL_lawB sa u = some (nI D.length, u') ∧ RC u' b' L K O ∧ day (tx b') L = .inr D := by
  have hS : ST b L K O (gR u 20) u := ⟨h, rfl⟩
  have hfl := fst_le sa
  have hf4 : nat (b 4) = fst_ sa := by
    show (b 4).toInt.toNat = _
    rw [h4, z_nN (by omega)]
    rfl
  obtain ⟨u1, p1, p2⟩ := s_minutes h hd
  have h1 := hS.nx p2
  obtain ⟨u2, q1, q2⟩ := s_warm h1.1 hd (m := 0) (Nat.zero_le _)
  have h2 := hS.nx q2
  have q1' : mX5_warm (sR u1 20 (gR u 20)) 0 = some (nI (fst_ sa), u2) := by rw [← hf4]; exact q1
  obtain ⟨u3, r1, r2⟩ := l92 (sa := sa) hd hW hDl D.length 0 _ 0 0 (by omega) h2 (by show 0 + 0 ≤ 0; decide) (by decide)
  have r1' : lpF (mL_lawB_s92 sa (nI D.length)) (0, 0, 0, sR u2 20 (gR u 20)) = some u3 := r1
  obtain ⟨u4, b4, t1, t2, t3, t4⟩ := l384 (c6 := nI D.length) hsa 4 0 u3 b rfl r2 (fun _ _ => rfl) (fun i hi => absurd hi (Nat.not_lt_zero _)) (fun i _ hi => hm i hi)
  have t1' : lpF (mL_lawB_s384 sa (nI D.length)) (0, u3) = some u4 := t1
  have etx : tx b4 = tx b := funext fun i => t3 (80 + i) (by omega)
  have hd4 : day (tx b4) L = .inr D := by rw [etx]; exact hd
  obtain ⟨u5, v1, v2⟩ := l460 hsa hd4 hDl t4 D.length 0 u4 (by omega) t2
  have v1' : lpF (mL_lawB_s460 sa (nI D.length)) (0, 0, 0, u4) = some (fd (fun k x => x + smk D (nat (b4 4)) b4 k 0 (-1)) D.length 0, fd (fun k x => x + smk D (nat (b4 4)) b4 k 1 (-1)) D.length 0, u5) := v1
  obtain ⟨u6, w1, w2⟩ := s_goes v2.1 hd4 (w := 0) (by decide)
  have h6 := v2.nx w2
  have w1' : mX5_goes u5 0 = some (fd (fun k x => x + smk D (nat (b4 4)) b4 k 0 (-1)) D.length 0, u6) := w1
  obtain ⟨u7, x1, x2⟩ := s_goes h6.1 hd4 (w := 1) (by decide)
  have h7 := v2.nx x2
  have x1' : mX5_goes (sR u6 20 (gR u5 20)) 1 = some (fd (fun k x => x + smk D (nat (b4 4)) b4 k 1 (-1)) D.length 0, u7) := x1
  obtain ⟨r, u8, y1, y2, y3⟩ := s_likeliest h7.1 hd4
  have h8 := v2.nx y2
  obtain ⟨u9, z1, z2⟩ := s_two h8.1 hd4
  have h9 := v2.nx z2
  have hgd : nI D.length = gR u 20 ((63 : Int32).toNatClampNeg) := hW.1.symm
  have fin : ∃ u', (if r < 0 then (if (if TT D b4 K = 0 then (-3 : Int32) else 1) = 1 then none else mL_lawB_j719 sa (sR u9 20 (gR u5 20)) (nI D.length) r (if TT D b4 K = 0 then (-3 : Int32) else 1)) else (if (if TT D b4 K = 0 then (-3 : Int32) else 1) = 1 then mL_lawB_j719 sa (sR u9 20 (gR u5 20)) (nI D.length) r (if TT D b4 K = 0 then (-3 : Int32) else 1) else none)) = some (nI D.length, u') ∧ ST b4 L K O (gR u 20) u' := by
    rcases y3 with ⟨a1, a2⟩ | ⟨a1, g, a2, a3, a4⟩
    · subst a2
      rw [if_pos (by decide), if_pos a1, if_neg (by decide)]
      exact j719F hsa hd4 a1 h9 _ _
    · rw [if_neg (by rw [a3]; exact nI_pos (by omega)), if_neg a1, if_pos rfl, a3]
      exact j719T hsa hd4 hDl a1 h9 a2 a4
  obtain ⟨u', f1, f2⟩ := fin
  refine ⟨u', b4, ?_, f2.1, hd4⟩
  unfold mL_lawB
  rw [p1, bs]
  dsimp only
  rw [gd_t hgd, q1', bs, e_first hsa, bs]
  dsimp only
  rw [gd_t rfl, r1', bs, t1', bs, v1', bs]
  dsimp only
  rw [w1', bs]
  dsimp only
  rw [gd_t rfl, x1', bs]
  dsimp only
  rw [gd_t rfl, y1, bs]
  dsimp only
  rw [z1, bs]
  exact f1
end LB
