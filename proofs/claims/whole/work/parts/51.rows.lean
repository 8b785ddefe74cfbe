/-! rows of limbs: times, adds, lessens, halves, against -/
theorem lb_mulp (x k : Nat) : x = x % 1073741824 ^ k + 1073741824 ^ k * (lb x k + 1073741824 * (x / 1073741824 ^ (k + 1))) := by
  have h1 := Nat.mod_add_div x (1073741824 ^ k)
  have h2 := Nat.mod_add_div (x / 1073741824 ^ k) 1073741824
  have h3 : x / 1073741824 ^ (k + 1) = x / 1073741824 ^ k / 1073741824 := by rw [Bs, Nat.div_div_eq_div_mul]
  have h4 : lb x k = x / 1073741824 ^ k % 1073741824 := rfl
  rw [h3, h4, h2]
  exact h1.symm
theorem div_le_c {x c P : Nat} (hP : 0 < P) : x % P * c / P ≤ c := by
  refine Nat.div_le_of_le_mul ?_
  exact Nat.mul_le_mul_right c (Nat.le_of_lt (Nat.mod_lt x hP))
theorem lb_mul (x c k : Nat) : lb (x * c) k = (lb x k * c + x % 1073741824 ^ k * c / 1073741824 ^ k) % 1073741824 ∧ x % 1073741824 ^ (k + 1) * c / 1073741824 ^ (k + 1) = (lb x k * c + x % 1073741824 ^ k * c / 1073741824 ^ k) / 1073741824 := by
  refine ⟨dgN (M := x / 1073741824 ^ (k + 1) * c) (Bp k) ?_, ?_⟩
  · have h := lb_mulp x k
    generalize x / 1073741824 ^ (k + 1) = q at *
    generalize lb x k = l at *
    generalize x % 1073741824 ^ k = t at *
    generalize 1073741824 ^ k = P at *
    rw [h, Nat.add_mul, Nat.mul_assoc, Nat.add_mul, Nat.mul_assoc]
  · rw [nd_s, Nat.add_mul, Nat.mul_assoc, Bs]
    exact dgC (Bp k)
theorem e_times {v : KS} {r x c : Nat} (hr : r < 7) (h : RH v r x) (hc : c ≤ 20) (hx3 : x * c < 1073741824 ^ 3) : ∃ v', mX6_times v (nI r) (nI c) = some v' ∧ RH v' r (x * c) ∧ LF r v v' := by
  have ir : inb (nI r) 7 := i_k hr (by decide)
  have cr : (nI r).toNatClampNeg = r := i_cl (by omega)
  obtain ⟨h1, h2, w, h3, h4, h5⟩ := h
  obtain ⟨cy, hcy⟩ : ∃ cy : Nat → Nat, ∀ k, cy k = x % 1073741824 ^ k * c / 1073741824 ^ k := ⟨_, fun _ => rfl⟩
  have cyl : ∀ k, cy k ≤ c := fun k => by rw [hcy]; exact div_le_c (Bp k)
  have e := lp_fd (S := mX6_times_s5 (nI r) (nI c)) (fun k (z : Int64 × (Nat → Int32)) => (z.1, nI k, sR v 4 z.2)) (fun k z => (lN (cy (k + 1)), upd z.2 (12 * r + k) (nI (lb (x * c) k)))) (fun z => (z.1, sR v 4 z.2)) w (lN (cy 0), gR v 4) (fun k z => z.1 = lN (cy k) ∧ ∀ j, k ≤ j → z.2 (12 * r + j) = gR v 4 (12 * r + j)) ⟨rfl, fun j _ => rfl⟩
    (fun k z hk hz => ⟨rfl, fun j hj => by
      dsimp only
      rw [u_no _ _ _ (by omega)]
      exact hz.2 j (by omega)⟩)
    (fun k z hk hz => by
      have i1 : inb (nI (12 * r + k)) 84 := i_k (by omega) (by decide)
      have c1 : (nI (12 * r + k)).toNatClampNeg = 12 * r + k := i_cl (by omega)
      have hl := lb_lt x k
      have hcl := cyl k
      have hm : lb x k * c ≤ 1073741824 * 20 := Nat.mul_le_mul (Nat.le_of_lt hl) hc
      obtain ⟨m1, m2⟩ := lb_mul x c k
      rw [← hcy, ← hcy] at m2
      rw [← hcy] at m1
      unfold mX6_times_s5
      dsimp only
      simp only [gd_t ir, cr]
      rw [show gR (sR v 4 z.2) 5 = gR v 5 from rfl, h3, if_neg (nI_ge hk (by omega)), e12, gd_t i1, gd_t i1, c1, show gR (sR v 4 z.2) 4 = z.2 from rfl, hz.2 k (Nat.le_refl _), h2 k (by omega), hz.1, nI_l (by omega), nI_l (by omega), lN_mul, lN_add, lsr30 (by omega), lmk30 (by omega), lN_i, i_s, sR_sR, m1, m2])
    (fun z _ => by
      unfold mX6_times_s5
      dsimp only
      simp only [gd_t ir, cr]
      rw [show gR (sR v 4 z.2) 5 = gR v 5 from rfl, h3, if_pos (Int32.le_refl _)])
  have hz1 : ∀ n, (fd (fun k (z : Int64 × (Nat → Int32)) => (lN (cy (k + 1)), upd z.2 (12 * r + k) (nI (lb (x * c) k)))) n (lN (cy 0), gR v 4)) = (lN (cy n), fd (fun k y => upd y (12 * r + k) (nI (lb (x * c) k))) n (gR v 4)) := by
    intro n
    induction n with
    | zero => rfl
    | succ n ih => rw [fd_s, ih]; rfl
  rw [hz1] at e
  have c0 : cy 0 = 0 := by rw [hcy, Nat.pow_zero, Nat.mod_one, Nat.zero_mul]
  rw [sR_self, c0] at e
  have e' : lpF (mX6_times_s5 (nI r) (nI c)) (0, 0, v) = _ := e
  have hF := fd_up (12 * r) (fun k => nI (lb (x * c) k)) w (gR v 4)
  generalize fd (fun k y => upd y (12 * r + k) (nI (lb (x * c) k))) w (gR v 4) = F at e' hF
  have hcw : cy w = x * c / 1073741824 ^ w := by rw [hcy, Nat.mod_eq_of_lt h5.1]
  have hcl := cyl w
  have hFo : ∀ j, j < 12 * r ∨ 12 * r + 12 ≤ j → F j = gR v 4 j := fun j hj => by rw [hF, if_neg (by omega)]
  have hcmp : (lg_cmp (lN (cy w)) 0 ≤ 0) ↔ cy w = 0 := lN_le0 (by omega)
  unfold mX6_times
  rw [e', bs]
  dsimp only
  by_cases cz : cy w = 0
  · have hlt : x * c < 1073741824 ^ w := by
      rw [hcw] at cz
      exact (Nat.div_eq_zero_iff.mp cz).resolve_left (by have := Bp w; omega)
    obtain ⟨v', q1, q2, q3⟩ := rh_fin' (v := v) (F := F) hr (show w ≤ 12 by omega) hx3 hlt (fun k hk => by
      rw [hF]
      by_cases d : k < w
      · rw [if_pos (by omega), Nat.add_sub_cancel_left]
      · rw [if_neg (by omega), h2 k hk, lb_0w h5.1 (by omega), lb_0w hlt (by omega)]) h3 hFo
    rw [if_pos (hcmp.mpr cz), q1, bs]
    exact ⟨v', rfl, q2, q3⟩
  · have hlt : x * c < 1073741824 ^ (w + 1) := by
      rw [Bs, Nat.mul_comm (1073741824 ^ w)]
      rw [hcw] at hcl
      exact (Nat.div_lt_iff_lt_mul (Bp w)).mp (by omega)
    have iw : inb (nI (12 * r + w)) 84 := i_k (by omega) (by decide)
    have cw : (nI (12 * r + w)).toNatClampNeg = 12 * r + w := i_cl (by omega)
    rw [if_neg (fun q => cz (hcmp.mp q))]
    simp only [gd_t ir, cr]
    rw [show gR (sR v 4 F) 5 = gR v 5 from rfl, h3, e12, gd_t iw, cw, show gR (sR v 4 F) 4 = F from rfl, lN_i, i_s, sR_sR]
    obtain ⟨v', q1, q2, q3⟩ := rh_fin (v := v) (F := upd F (12 * r + w) (nI (cy w))) (G := upd (gR v 5) r (nI (w + 1))) hr (show w + 1 ≤ 12 by omega) hx3 hlt (fun k hk => by
      by_cases d : k = w
      · rw [d, u_is, lb_top hlt, hcw]
      · rw [u_no _ _ _ (by omega), hF]
        by_cases d2 : k < w
        · rw [if_pos (by omega), Nat.add_sub_cancel_left]
        · rw [if_neg (by omega), h2 k hk, lb_0w h5.1 (by omega), lb_0w hlt (by omega)]) (u_is _ _ _) (fun j hj => by rw [u_no _ _ _ (by omega)]; exact hFo j hj) (fun j hj => u_no _ _ _ hj)
    rw [q1, bs]
    exact ⟨v', rfl, q2, q3⟩
theorem lb_add (x y k : Nat) : lb (x + y) k = (lb x k + lb y k + (x % 1073741824 ^ k + y % 1073741824 ^ k) / 1073741824 ^ k) % 1073741824 ∧ (x % 1073741824 ^ (k + 1) + y % 1073741824 ^ (k + 1)) / 1073741824 ^ (k + 1) = (lb x k + lb y k + (x % 1073741824 ^ k + y % 1073741824 ^ k) / 1073741824 ^ k) / 1073741824 := by
  refine ⟨dgN (M := x / 1073741824 ^ (k + 1) + y / 1073741824 ^ (k + 1)) (Bp k) ?_, ?_⟩
  · have h := lb_mulp x k
    have h' := lb_mulp y k
    generalize x / 1073741824 ^ (k + 1) = q at *
    generalize lb x k = l at *
    generalize x % 1073741824 ^ k = t at *
    generalize y / 1073741824 ^ (k + 1) = q' at *
    generalize lb y k = l' at *
    generalize y % 1073741824 ^ k = t' at *
    generalize 1073741824 ^ k = P at *
    have e : l + l' + 1073741824 * (q + q') = (l + 1073741824 * q) + (l' + 1073741824 * q') := by omega
    have e2 : P * (l + 1073741824 * q + (l' + 1073741824 * q')) = P * (l + 1073741824 * q) + P * (l' + 1073741824 * q') := Nat.mul_add _ _ _
    rw [h, h', e, e2]
    omega
  · rw [nd_s, nd_s, Bs, show x % 1073741824 ^ k + 1073741824 ^ k * lb x k + (y % 1073741824 ^ k + 1073741824 ^ k * lb y k) = x % 1073741824 ^ k + y % 1073741824 ^ k + 1073741824 ^ k * (lb x k + lb y k) by rw [Nat.mul_add]; omega]
    exact dgC (Bp k)
theorem add_c1 {x y P : Nat} (hP : 0 < P) : (x % P + y % P) / P ≤ 1 := by
  have h1 := Nat.mod_lt x hP
  have h2 := Nat.mod_lt y hP
  have h3 : (x % P + y % P) / P < 2 := Nat.div_lt_of_lt_mul (by omega)
  omega
theorem e_adds {v : KS} {r q x y : Nat} (hr : r < 7) (hq : q < 7) (hn : r ≠ q) (h : RH v r x) (g : RH v q y) (hx3 : x + y < 1073741824 ^ 3) : ∃ v', mX6_adds v (nI r) (nI q) = some v' ∧ RH v' r (x + y) ∧ LF r v v' := by
  have ir : inb (nI r) 7 := i_k hr (by decide)
  have cr : (nI r).toNatClampNeg = r := i_cl (by omega)
  have iq : inb (nI q) 7 := i_k hq (by decide)
  have cq : (nI q).toNatClampNeg = q := i_cl (by omega)
  obtain ⟨h1, h2, w, h3, h4, h5⟩ := h
  obtain ⟨g1, g2, w', g3, g4, g5⟩ := g
  obtain ⟨cy, hcy⟩ : ∃ cy : Nat → Nat, ∀ k, cy k = (x % 1073741824 ^ k + y % 1073741824 ^ k) / 1073741824 ^ k := ⟨_, fun _ => rfl⟩
  have cyl : ∀ k, cy k ≤ 1 := fun k => by rw [hcy]; exact add_c1 (Bp k)
  have main : ∀ n, n ≤ 3 → x < 1073741824 ^ n → y < 1073741824 ^ n → ∃ v', ((lpF (mX6_adds_s37 (nI r) (nI q) (nI n)) (0, 0, v)).bind fun e37 => gd (inb (12 * nI r + nI n) 84) (gd (inb (nI r) 7) ((mX6_trims (sR (sR e37.2 4 (upd (gR e37.2 4) ((12 * nI r + nI n).toNatClampNeg) e37.1)) 5 (upd (gR e37.2 5) ((nI r).toNatClampNeg) (nI n + e37.1))) (nI r)).bind fun r127 => some r127))) = some v' ∧ RH v' r (x + y) ∧ LF r v v' := by
    intro n hn3 hxn hyn
    have e := lp_fd (S := mX6_adds_s37 (nI r) (nI q) (nI n)) (fun k (z : Int32 × (Nat → Int32)) => (z.1, nI k, sR v 4 z.2)) (fun k z => (nI (cy (k + 1)), upd z.2 (12 * r + k) (nI (lb (x + y) k)))) (fun z => (z.1, sR v 4 z.2)) n (nI (cy 0), gR v 4) (fun k z => z.1 = nI (cy k) ∧ (∀ j, k ≤ j → z.2 (12 * r + j) = gR v 4 (12 * r + j)) ∧ ∀ j, j < 12 → z.2 (12 * q + j) = gR v 4 (12 * q + j)) ⟨rfl, fun j _ => rfl, fun j _ => rfl⟩
      (fun k z hk hz => ⟨rfl, fun j hj => by
        dsimp only
        rw [u_no _ _ _ (by omega)]
        exact hz.2.1 j (by omega), fun j hj => by
        dsimp only
        rw [u_no _ _ _ (by omega)]
        exact hz.2.2 j hj⟩)
      (fun k z hk hz => by
        have i1 : inb (nI (12 * r + k)) 84 := i_k (by omega) (by decide)
        have c1 : (nI (12 * r + k)).toNatClampNeg = 12 * r + k := i_cl (by omega)
        have i2 : inb (nI (12 * q + k)) 84 := i_k (by omega) (by decide)
        have c2 : (nI (12 * q + k)).toNatClampNeg = 12 * q + k := i_cl (by omega)
        have hl := lb_lt x k
        have hl' := lb_lt y k
        have hcl := cyl k
        obtain ⟨m1, m2⟩ := lb_add x y k
        rw [← hcy, ← hcy] at m2
        rw [← hcy] at m1
        have us : ∀ a, a < 4294967296 → ((nI a).toUInt32 >>> ((30 : Int32).toUInt32 &&& Int32.toUInt32 31)).toInt32 = nI (a / 1073741824) := fun a ha => pk_ushrN (n := a) ha 30 30 (by decide)
        unfold mX6_adds_s37
        dsimp only
        rw [if_neg (nI_ge hk (by omega)), e12, e12, gd_t i1, gd_t i2, gd_t i1, c1, c2, show gR (sR v 4 z.2) 4 = z.2 from rfl, hz.2.1 k (Nat.le_refl _), hz.2.2 k (by omega), h2 k (by omega), g2 k (by omega), hz.1, i_add, i_add, us _ (by omega), imk30 (by omega), i_s, sR_sR, m1, m2])
      (fun z _ => by
        unfold mX6_adds_s37
        dsimp only
        rw [if_pos (Int32.le_refl _)])
    have hz1 : ∀ n, (fd (fun k (z : Int32 × (Nat → Int32)) => (nI (cy (k + 1)), upd z.2 (12 * r + k) (nI (lb (x + y) k)))) n (nI (cy 0), gR v 4)) = (nI (cy n), fd (fun k z => upd z (12 * r + k) (nI (lb (x + y) k))) n (gR v 4)) := by
      intro n
      induction n with
      | zero => rfl
      | succ n ih => rw [fd_s, ih]; rfl
    rw [hz1] at e
    have c0 : cy 0 = 0 := by rw [hcy, Nat.pow_zero, Nat.mod_one, Nat.mod_one]
    rw [sR_self, c0] at e
    have e' : lpF (mX6_adds_s37 (nI r) (nI q) (nI n)) (0, 0, v) = _ := e
    have hF := fd_up (12 * r) (fun k => nI (lb (x + y) k)) n (gR v 4)
    generalize fd (fun k z => upd z (12 * r + k) (nI (lb (x + y) k))) n (gR v 4) = F at e' hF
    have hcw : cy n = (x + y) / 1073741824 ^ n := by rw [hcy, Nat.mod_eq_of_lt hxn, Nat.mod_eq_of_lt hyn]
    have hcl := cyl n
    have iw : inb (nI (12 * r + n)) 84 := i_k (by omega) (by decide)
    have cw : (nI (12 * r + n)).toNatClampNeg = 12 * r + n := i_cl (by omega)
    have hlt : x + y < 1073741824 ^ (n + cy n) := by
      by_cases d : cy n = 0
      · rw [d, Nat.add_zero]
        rw [hcw] at d
        exact (Nat.div_eq_zero_iff.mp d).resolve_left (by have := Bp n; omega)
      · rw [show cy n = 1 by omega, Bs]
        have := Bp n
        omega
    have hlt1 : x + y < 1073741824 ^ (n + 1) := Nat.lt_of_lt_of_le hlt (Nat.pow_le_pow_right (by decide) (by omega))
    rw [e', bs]
    dsimp only
    rw [gd_t ir, cr, e12, gd_t iw, cw, show gR (sR v 4 F) 5 = gR v 5 from rfl, show gR (sR v 4 F) 4 = F from rfl, i_add, sR_sR]
    obtain ⟨v', q1, q2, q3⟩ := rh_fin (v := v) (F := upd F (12 * r + n) (nI (cy n))) (G := upd (gR v 5) r (nI (n + cy n))) hr (show n + cy n ≤ 12 by omega) hx3 hlt (fun k hk => by
      by_cases d : k = n
      · rw [d, u_is, lb_top hlt1, hcw]
      · rw [u_no _ _ _ (by omega), hF]
        by_cases d2 : k < n
        · rw [if_pos (by omega), Nat.add_sub_cancel_left]
        · rw [if_neg (by omega), h2 k hk, lb_0w hxn (by omega), lb_0w hlt1 (by omega)]) (u_is _ _ _) (fun j hj => by rw [u_no _ _ _ (by omega), hF, if_neg (by omega)]) (fun j hj => u_no _ _ _ hj)
    rw [q1, bs]
    exact ⟨v', rfl, q2, q3⟩
  unfold mX6_adds
  rw [gd_t ir, gd_t iq]
  by_cases c : w ≤ w'
  · obtain ⟨v', q1, q2⟩ := main w' g4 (Nat.lt_of_lt_of_le h5.1 (Nat.pow_le_pow_right (by decide) c)) g5.1
    refine ⟨v', ?_, q2⟩
    rw [if_pos (by rw [cr, cq, h3, g3]; exact nI_le c (by omega)), gd_t iq, cq, g3]
    exact q1
  · obtain ⟨v', q1, q2⟩ := main w h4 h5.1 (Nat.lt_of_lt_of_le g5.1 (Nat.pow_le_pow_right (by decide) (by omega)))
    refine ⟨v', ?_, q2⟩
    rw [if_neg (by rw [cr, cq, h3, g3]; exact nI_ge (by omega) (by omega)), gd_t ir]
    simp only [cr, h3] at q1 ⊢
    exact q1
/-! lessens -/
theorem dzN {P t X Z M : Int} (hP : 0 < P) (hZ : Z = t + P * (X + 1073741824 * M)) : Z / P % 1073741824 = (X + t / P) % 1073741824 := by
  rw [hZ, Int.add_mul_ediv_left _ _ (by omega)]
  generalize t / P = q
  omega
theorem dzC {P t X : Int} (hP : 0 < P) : (t + P * X) / (P * 1073741824) = (X + t / P) / 1073741824 := by
  rw [← Int.ediv_ediv_of_nonneg (by omega), Int.add_mul_ediv_left _ _ (by omega), Int.add_comm]
theorem lbZ (x k : Nat) : ((lb x k : Nat) : Int) = (x : Int) / ((1073741824 ^ k : Nat) : Int) % 1073741824 := by
  unfold lb
  rw [Int.natCast_emod, Int.natCast_ediv]
  rfl
theorem lb_mulZ (x k : Nat) : (x : Int) = ((x % 1073741824 ^ k : Nat) : Int) + ((1073741824 ^ k : Nat) : Int) * ((lb x k : Nat) + 1073741824 * ((x / 1073741824 ^ (k + 1) : Nat) : Int)) := by
  have h := congrArg (fun n : Nat => (n : Int)) (lb_mulp x k)
  rw [Int.natCast_add, Int.natCast_mul, Int.natCast_add, Int.natCast_mul] at h
  exact h
theorem nd_sZ (x k : Nat) : ((x % 1073741824 ^ (k + 1) : Nat) : Int) = ((x % 1073741824 ^ k : Nat) : Int) + ((1073741824 ^ k : Nat) : Int) * ((lb x k : Nat) : Int) := by
  have h := congrArg (fun n : Nat => (n : Int)) (nd_s x k)
  rw [Int.natCast_add, Int.natCast_mul] at h
  exact h
def bz (x y k : Nat) : Int := (((x % 1073741824 ^ k : Nat) : Int) - ((y % 1073741824 ^ k : Nat) : Int)) / ((1073741824 ^ k : Nat) : Int)
theorem bz_r (x y k : Nat) : -1 ≤ bz x y k ∧ bz x y k ≤ 0 := by
  have hP := Bp k
  have h1 := Nat.mod_lt x hP
  have h2 := Nat.mod_lt y hP
  unfold bz
  generalize x % 1073741824 ^ k = a at *
  generalize y % 1073741824 ^ k = b at *
  generalize 1073741824 ^ k = P at *
  constructor
  · exact (Int.le_ediv_iff_mul_le (by omega)).mpr (by omega)
  · have := (Int.ediv_lt_iff_lt_mul (a := (a : Int) - b) (b := 1) (c := (P : Int)) (by omega)).mpr (by omega)
    omega
theorem lb_sub {x y : Nat} (h : y ≤ x) (k : Nat) : ((lb (x - y) k : Nat) : Int) = ((lb x k : Int) - (lb y k : Int) + bz x y k) % 1073741824 ∧ bz x y (k + 1) = ((lb x k : Int) - (lb y k : Int) + bz x y k) / 1073741824 := by
  have hP : (0 : Int) < ((1073741824 ^ k : Nat) : Int) := by have := Bp k; omega
  constructor
  · rw [lbZ]
    refine dzN (M := ((x / 1073741824 ^ (k + 1) : Nat) : Int) - ((y / 1073741824 ^ (k + 1) : Nat) : Int)) hP ?_
    rw [Int.ofNat_sub h]
    have e1 := lb_mulZ x k
    have e2 := lb_mulZ y k
    generalize ((x / 1073741824 ^ (k + 1) : Nat) : Int) = q at *
    generalize ((y / 1073741824 ^ (k + 1) : Nat) : Int) = q' at *
    generalize ((lb x k : Nat) : Int) = l at *
    generalize ((lb y k : Nat) : Int) = l' at *
    generalize ((x % 1073741824 ^ k : Nat) : Int) = t at *
    generalize ((y % 1073741824 ^ k : Nat) : Int) = t' at *
    generalize ((1073741824 ^ k : Nat) : Int) = P at *
    have e3 : l - l' + 1073741824 * (q - q') = (l + 1073741824 * q) - (l' + 1073741824 * q') := by omega
    rw [e3, Int.mul_sub]
    omega
  · unfold bz
    rw [nd_sZ, nd_sZ]
    have e : ((1073741824 ^ (k + 1) : Nat) : Int) = ((1073741824 ^ k : Nat) : Int) * 1073741824 := by rw [Bs, Int.natCast_mul]; rfl
    rw [e]
    have e3 : ((x % 1073741824 ^ k : Nat) : Int) + ((1073741824 ^ k : Nat) : Int) * ((lb x k : Nat) : Int) - (((y % 1073741824 ^ k : Nat) : Int) + ((1073741824 ^ k : Nat) : Int) * ((lb y k : Nat) : Int)) = ((x % 1073741824 ^ k : Nat) : Int) - ((y % 1073741824 ^ k : Nat) : Int) + ((1073741824 ^ k : Nat) : Int) * (((lb x k : Nat) : Int) - ((lb y k : Nat) : Int)) := by
      rw [Int.mul_sub]; omega
    rw [e3]
    exact dzC hP
def bw (x y k : Nat) : Nat := if bz x y k = 0 then 0 else 1
theorem bw_z (x y k : Nat) : ((bw x y k : Nat) : Int) = - bz x y k := by
  have := bz_r x y k
  unfold bw
  split <;> omega
theorem e_lessens {v : KS} {r q x y : Nat} (hr : r < 7) (hq : q < 7) (hn : r ≠ q) (h : RH v r x) (g : RH v q y) (hle : y ≤ x) : ∃ v', mX6_lessens v (nI r) (nI q) = some v' ∧ RH v' r (x - y) ∧ LF r v v' := by
  have ir : inb (nI r) 7 := i_k hr (by decide)
  have cr : (nI r).toNatClampNeg = r := i_cl (by omega)
  obtain ⟨h1, h2, w, h3, h4, h5⟩ := h
  obtain ⟨g1, g2, w', g3, g4, g5⟩ := g
  have e := lp_fd (S := mX6_lessens_s5 (nI r) (nI q)) (fun k (z : Int32 × (Nat → Int32)) => (z.1, nI k, sR v 4 z.2)) (fun k z => (nI (bw x y (k + 1)), upd z.2 (12 * r + k) (nI (lb (x - y) k)))) (fun z => sR v 4 z.2) w (nI (bw x y 0), gR v 4) (fun k z => z.1 = nI (bw x y k) ∧ (∀ j, k ≤ j → z.2 (12 * r + j) = gR v 4 (12 * r + j)) ∧ ∀ j, j < 12 → z.2 (12 * q + j) = gR v 4 (12 * q + j)) ⟨rfl, fun j _ => rfl, fun j _ => rfl⟩
    (fun k z hk hz => ⟨rfl, fun j hj => by
      dsimp only
      rw [u_no _ _ _ (by omega)]
      exact hz.2.1 j (by omega), fun j hj => by
      dsimp only
      rw [u_no _ _ _ (by omega)]
      exact hz.2.2 j hj⟩)
    (fun k z hk hz => by
      have i1 : inb (nI (12 * r + k)) 84 := i_k (by omega) (by decide)
      have c1 : (nI (12 * r + k)).toNatClampNeg = 12 * r + k := i_cl (by omega)
      have i2 : inb (nI (12 * q + k)) 84 := i_k (by omega) (by decide)
      have c2 : (nI (12 * q + k)).toNatClampNeg = 12 * q + k := i_cl (by omega)
      have hl := lb_lt x k
      have hl' := lb_lt y k
      have hb := bz_r x y k
      have hw := bw_z x y k
      have hw' := bw_z x y (k + 1)
      obtain ⟨m1, m2⟩ := lb_sub hle k
      have z1 : (nI (lb x k)).toInt = (lb x k : Int) := z_nN (by omega)
      have z2 : (nI (lb y k)).toInt = (lb y k : Int) := z_nN (by omega)
      have z3 : (nI (bw x y k)).toInt = - bz x y k := by rw [z_nN (by omega), hw]
      have z4 : (nI (lb x k) - nI (lb y k)).toInt = (lb x k : Int) - (lb y k : Int) := by rw [z_subc (by omega) (by omega), z1, z2]
      have z5 : (nI (lb x k) - nI (lb y k) - nI (bw x y k)).toInt = (lb x k : Int) - (lb y k : Int) + bz x y k := by rw [z_subc (by omega) (by omega), z4, z3]; omega
      have m3 : (nI (lb x k) - nI (lb y k) - nI (bw x y k)) &&& 1073741823 = nI (lb (x - y) k) := by
        refine z_nat ?_
        rw [mi32, z5, m1]
      unfold mX6_lessens_s5
      dsimp only
      simp only [gd_t ir, cr]
      rw [show gR (sR v 4 z.2) 5 = gR v 5 from rfl, h3, if_neg (nI_ge hk (by omega)), e12, e12, gd_t i1, gd_t i2, gd_t i1, c1, c2, show gR (sR v 4 z.2) 4 = z.2 from rfl, hz.2.1 k (Nat.le_refl _), hz.2.2 k (by omega), h2 k (by omega), g2 k (by omega), hz.1, m3, i_s, sR_sR]
      by_cases d : 0 ≤ nI (lb x k) - nI (lb y k) - nI (bw x y k)
      · rw [if_pos d]
        rw [z_le, z5, show (0 : Int32).toInt = 0 from rfl] at d
        have : bw x y (k + 1) = 0 := by omega
        rw [this]; rfl
      · rw [if_neg d]
        rw [z_le, z5, show (0 : Int32).toInt = 0 from rfl] at d
        have : bw x y (k + 1) = 1 := by omega
        rw [this]; rfl)
    (fun z _ => by
      unfold mX6_lessens_s5
      dsimp only
      simp only [gd_t ir, cr]
      rw [show gR (sR v 4 z.2) 5 = gR v 5 from rfl, h3, if_pos (Int32.le_refl _)])
  have hz1 : ∀ n, (fd (fun k (z : Int32 × (Nat → Int32)) => (nI (bw x y (k + 1)), upd z.2 (12 * r + k) (nI (lb (x - y) k)))) n (nI (bw x y 0), gR v 4)) = (nI (bw x y n), fd (fun k z => upd z (12 * r + k) (nI (lb (x - y) k))) n (gR v 4)) := by
    intro n
    induction n with
    | zero => rfl
    | succ n ih => rw [fd_s, ih]; rfl
  rw [hz1] at e
  have c0 : bw x y 0 = 0 := by
    have : bz x y 0 = 0 := by
      unfold bz
      rw [Nat.pow_zero, Nat.mod_one, Nat.mod_one]
      rfl
    unfold bw
    rw [if_pos this]
  rw [sR_self, c0] at e
  have e' : lpF (mX6_lessens_s5 (nI r) (nI q)) (0, 0, v) = _ := e
  have hF := fd_up (12 * r) (fun k => nI (lb (x - y) k)) w (gR v 4)
  dsimp only at e'
  generalize fd (fun k z => upd z (12 * r + k) (nI (lb (x - y) k))) w (gR v 4) = F at e' hF
  have hlt : x - y < 1073741824 ^ w := Nat.lt_of_le_of_lt (Nat.sub_le _ _) h5.1
  obtain ⟨v', q1, q2, q3⟩ := rh_fin' (v := v) (F := F) hr (show w ≤ 12 by omega) (Nat.lt_of_le_of_lt (Nat.sub_le _ _) h1) hlt (fun k hk => by
    rw [hF]
    by_cases d : k < w
    · rw [if_pos (by omega), Nat.add_sub_cancel_left]
    · rw [if_neg (by omega), h2 k hk, lb_0w h5.1 (by omega), lb_0w hlt (by omega)]) h3 (fun j hj => by rw [hF, if_neg (by omega)])
  unfold mX6_lessens
  rw [e', bs, q1, bs]
  exact ⟨v', rfl, q2, q3⟩
/-! halves, even, against -/
theorem or_nI (a b : Nat) : nI a ||| nI b = nI (a ||| b) := by
  apply Int32.toBitVec_inj.1
  show BitVec.ofNat 32 a ||| BitVec.ofNat 32 b = BitVec.ofNat 32 (a ||| b)
  apply BitVec.eq_of_getLsbD_eq
  intro i hi
  simp [hi]
theorem and1 {a : Nat} (ha : a < 2147483648) : nI a &&& 1 = nI (a % 2) := by
  have e : (nI a &&& 1).toInt = ((nI a).toBitVec &&& 1#32).toInt := rfl
  have h1 : ((nI a).toBitVec &&& 1#32).toNat = (nI a).toBitVec.toNat % 2 := by
    rw [BitVec.toNat_and]
    exact Nat.and_two_pow_sub_one_eq_mod _ 1
  have h2 : (nI a).toBitVec.toNat = a := by
    show (BitVec.ofNat 32 a).toNat = a
    rw [BitVec.toNat_ofNat]
    exact Nat.mod_eq_of_lt (by omega)
  refine z_nat ?_
  rw [e, BitVec.toInt_eq_toNat_cond, h1, h2]
  split <;> omega
theorem lb_mod2 (x : Nat) : lb x 0 % 2 = x % 2 := by
  unfold lb
  rw [Nat.pow_zero, Nat.div_one]
  omega
theorem e_isEven {v : KS} {r x : Nat} (hr : r < 7) (h : RH v r x) : mX6_isEven v (nI r) = some (if x % 2 = 0 then 1 else 0) := by
  have e0 : 12 * nI r = nI (12 * r) := by rw [show (12 : Int32) = nI 12 from rfl, i_mul]
  have i1 : inb (nI (12 * r)) 84 := i_k (by omega) (by decide)
  have c1 : (nI (12 * r)).toNatClampNeg = 12 * r := i_cl (by omega)
  have hl := lb_lt x 0
  have h0 : gR v 4 (12 * r) = nI (lb x 0) := h.2.1 0 (by decide)
  have e2 : (nI (lb x 0 % 2) = 0) ↔ lb x 0 % 2 = 0 := nI_eq (b := 0) (by omega) (by decide)
  unfold mX6_isEven
  rw [e0, gd_t i1, c1, h0, and1 (by omega)]
  by_cases c : x % 2 = 0
  · rw [if_pos (e2.mpr (by rw [lb_mod2]; exact c)), if_pos c]
  · rw [if_neg (fun q => c (by rw [← lb_mod2]; exact e2.mp q)), if_neg c]
theorem lb_half (x k : Nat) : lb (x / 2) k = lb x k / 2 + lb x (k + 1) % 2 * 536870912 := by
  have e1 : x / 2 / 1073741824 ^ k = x / 1073741824 ^ k / 2 := by rw [Nat.div_div_eq_div_mul, Nat.div_div_eq_div_mul, Nat.mul_comm]
  have e2 : x / 1073741824 ^ (k + 1) = x / 1073741824 ^ k / 1073741824 := by rw [Bs, Nat.div_div_eq_div_mul]
  unfold lb
  rw [e1, e2]
  generalize x / 1073741824 ^ k = y
  omega
theorem half_or {a b : Nat} (ha : a < 536870912) : nI a ||| nI (b * 536870912) = nI (a + b * 536870912) := by
  rw [or_nI]
  have h := Nat.two_pow_add_eq_or_of_lt (i := 29) (b := a) (by exact ha) b
  rw [show (2 : Nat) ^ 29 = 536870912 from rfl] at h
  rw [Nat.or_comm, Nat.mul_comm b, ← h, Nat.add_comm]
theorem e_halves {v : KS} {r x : Nat} (hr : r < 7) (h : RH v r x) : ∃ v', mX6_halves v (nI r) = some v' ∧ RH v' r (x / 2) ∧ LF r v v' := by
  have ir : inb (nI r) 7 := i_k hr (by decide)
  have cr : (nI r).toNatClampNeg = r := i_cl (by omega)
  obtain ⟨h1, h2, w, h3, h4, h5⟩ := h
  have e := lp_fd (S := mX6_halves_s2 (nI r)) (fun k (z : Nat → Int32) => (nI k, sR v 4 z)) (fun k z => upd z (12 * r + k) (nI (lb (x / 2) k))) (fun z => sR v 4 z) w (gR v 4) (fun k z => ∀ j, k ≤ j → z (12 * r + j) = gR v 4 (12 * r + j)) (fun j _ => rfl)
    (fun k z hk hz j hj => by
      rw [u_no _ _ _ (by omega)]
      exact hz j (by omega))
    (fun k z hk hz => by
      have i1 : inb (nI (12 * r + k)) 84 := i_k (by omega) (by decide)
      have c1 : (nI (12 * r + k)).toNatClampNeg = 12 * r + k := i_cl (by omega)
      have i2 : inb (nI (12 * r + k + 1)) 84 := i_k (by omega) (by decide)
      have c2 : (nI (12 * r + k + 1)).toNatClampNeg = 12 * r + k + 1 := i_cl (by omega)
      have hl := lb_lt x k
      have hl' := lb_lt x (k + 1)
      have hh := lb_half x k
      have s1 : nI (lb x k) >>> (1 &&& 31) = nI (lb x k / 2) := pk_shrN (n := lb x k) (by omega) (1 &&& 31) 1 (by decide)
      have s2 : ∀ b, b < 2 → nI b <<< (29 &&& 31) = nI (b * 536870912) := fun b hb => pk_shlN (n := b) (29 &&& 31) 29 (by decide) (by omega)
      unfold mX6_halves_s2
      dsimp only
      simp only [gd_t ir, cr]
      rw [show gR (sR v 4 z) 5 = gR v 5 from rfl, h3, if_neg (nI_ge hk (by omega)), e12, i_s, i_s, gd_t i1, gd_t i1, gd_t i2, gd_t i1, gd_t i1, c1, c2, show gR (sR v 4 z) 4 = z from rfl, hz k (Nat.le_refl _), show z (12 * r + k + 1) = gR v 4 (12 * r + (k + 1)) from hz (k + 1) (by omega), h2 k (by omega), h2 (k + 1) (by omega), s1, and1 (by omega), s2 _ (by omega), half_or (by omega), show ((0 : Int32) <<< (29 &&& 31)) = nI (0 * 536870912) from rfl, half_or (by omega), sR_sR, sR_sR]
      by_cases d : w ≤ k + 1
      · rw [if_pos (nI_le d (by omega)), hh, lb_0w h5.1 d]
      · rw [if_neg (nI_ge (by omega) (by omega)), hh])
    (fun z _ => by
      unfold mX6_halves_s2
      dsimp only
      simp only [gd_t ir, cr]
      rw [show gR (sR v 4 z) 5 = gR v 5 from rfl, h3, if_pos (Int32.le_refl _)])
  rw [sR_self] at e
  have e' : lpF (mX6_halves_s2 (nI r)) (0, v) = _ := e
  have hF := fd_up (12 * r) (fun k => nI (lb (x / 2) k)) w (gR v 4)
  generalize fd (fun k z => upd z (12 * r + k) (nI (lb (x / 2) k))) w (gR v 4) = F at e' hF
  have hle : x / 2 ≤ x := Nat.div_le_self _ _
  have hlt : x / 2 < 1073741824 ^ w := Nat.lt_of_le_of_lt hle h5.1
  obtain ⟨v', q1, q2, q3⟩ := rh_fin' (v := v) (F := F) hr (show w ≤ 12 by omega) (Nat.lt_of_le_of_lt hle h1) hlt (fun k hk => by
    rw [hF]
    by_cases d : k < w
    · rw [if_pos (by omega), Nat.add_sub_cancel_left]
    · rw [if_neg (by omega), h2 k hk, lb_0w h5.1 (by omega), lb_0w hlt (by omega)]) h3 (fun j hj => by rw [hF, if_neg (by omega)])
  unfold mX6_halves
  rw [e', bs, q1, bs]
  exact ⟨v', rfl, q2, q3⟩
theorem e_against {v : KS} {r q x y : Nat} (hr : r < 7) (hq : q < 7) (h : RH v r x) (g : RH v q y) : ∃ c, mX6_against v (nI r) (nI q) = some c ∧ (c < 0 ↔ x < y) := by
  have ir : inb (nI r) 7 := i_k hr (by decide)
  have cr : (nI r).toNatClampNeg = r := i_cl (by omega)
  have iq : inb (nI q) 7 := i_k hq (by decide)
  have cq : (nI q).toNatClampNeg = q := i_cl (by omega)
  obtain ⟨h1, h2, w, h3, h4, h5⟩ := h
  obtain ⟨g1, g2, w', g3, g4, g5⟩ := g
  have n0 : (-1 : Int32) < 0 := by decide
  have n1 : ¬ (1 : Int32) < 0 := by decide
  have n2 : ¬ (0 : Int32) < 0 := by decide
  unfold mX6_against
  simp only [gd_t ir, gd_t iq, cr, cq, h3, g3]
  by_cases c : w = w'
  · subst c
    have key : ∀ m, m ≤ w → x / 1073741824 ^ m = y / 1073741824 ^ m → (lpF (mX6_against_s45 v (nI r) (nI q)) (nI m - 1) = some (.inl ()) ∧ x = y) ∨ (∃ k, k < 12 ∧ lpF (mX6_against_s45 v (nI r) (nI q)) (nI m - 1) = some (.inr (nI k)) ∧ lb x k ≠ lb y k ∧ (lb x k < lb y k ↔ x < y)) := by
      intro m
      induction m with
      | zero =>
        intro _ hxy
        rw [Nat.pow_zero, Nat.div_one, Nat.div_one] at hxy
        refine Or.inl ⟨lp_stop ?_, hxy⟩
        unfold mX6_against_s45
        rw [if_pos (by decide)]
      | succ m ih =>
        intro hm hxy
        have i1 : inb (nI (12 * r + m)) 84 := i_k (by omega) (by decide)
        have c1 : (nI (12 * r + m)).toNatClampNeg = 12 * r + m := i_cl (by omega)
        have i2 : inb (nI (12 * q + m)) 84 := i_k (by omega) (by decide)
        have c2 : (nI (12 * q + m)).toNatClampNeg = 12 * q + m := i_cl (by omega)
        have hl := lb_lt x m
        have hl' := lb_lt y m
        have em : nI (m + 1) - 1 = nI m := nI_pred m
        have em2 : nI m + (-1) = nI m - 1 := (Int32.sub_eq_add_neg (nI m) 1).symm
        have eq : (nI (lb x m) = nI (lb y m)) ↔ lb x m = lb y m := nI_eq (by omega) (by omega)
        have st : mX6_against_s45 v (nI r) (nI q) (nI m) = if lb x m = lb y m then some (.inr (nI m - 1)) else some (.inl (.inr (nI m))) := by
          unfold mX6_against_s45
          rw [if_neg (nI_pos (by omega)), e12, e12, gd_t i1, gd_t i2, c1, c2, h2 m (by omega), g2 m (by omega), em2]
          by_cases d : lb x m = lb y m
          · rw [if_pos (eq.mpr d), if_pos d]
          · rw [if_neg (fun z => d (eq.mp z)), if_neg d]
        have dx : x / 1073741824 ^ m = lb x m + 1073741824 * (x / 1073741824 ^ (m + 1)) := by
          rw [Bs, ← Nat.div_div_eq_div_mul]
          unfold lb
          omega
        have dy : y / 1073741824 ^ m = lb y m + 1073741824 * (y / 1073741824 ^ (m + 1)) := by
          rw [Bs, ← Nat.div_div_eq_div_mul]
          unfold lb
          omega
        rw [em]
        by_cases d : lb x m = lb y m
        · rw [if_pos d] at st
          rw [lp_go st]
          exact ih (by omega) (by rw [dx, dy, d, hxy])
        · rw [if_neg d] at st
          refine Or.inr ⟨m, by omega, lp_stop st, d, ?_⟩
          constructor
          · intro z
            refine Nat.lt_of_not_le (fun z2 => ?_)
            have := Nat.div_le_div_right (c := 1073741824 ^ m) z2
            omega
          · intro z
            refine Nat.lt_of_not_le (fun z2 => ?_)
            have := Nat.div_le_div_right (c := 1073741824 ^ m) (Nat.le_of_lt z)
            omega
    rw [if_pos rfl]
    rcases key w (Nat.le_refl _) (by rw [Nat.div_eq_of_lt h5.1, Nat.div_eq_of_lt g5.1]) with ⟨k1, k2⟩ | ⟨k, k1, k2, k3, k4⟩
    · rw [k1, bs]
      refine ⟨0, rfl, ?_⟩
      rw [k2]
      exact ⟨fun z => absurd z n2, fun z => absurd z (Nat.lt_irrefl _)⟩
    · have i1 : inb (nI (12 * r + k)) 84 := i_k (by omega) (by decide)
      have c1 : (nI (12 * r + k)).toNatClampNeg = 12 * r + k := i_cl (by omega)
      have i2 : inb (nI (12 * q + k)) 84 := i_k (by omega) (by decide)
      have c2 : (nI (12 * q + k)).toNatClampNeg = 12 * q + k := i_cl (by omega)
      have hl := lb_lt x k
      have hl' := lb_lt y k
      have eq : (nI (lb y k) ≤ nI (lb x k)) ↔ lb y k ≤ lb x k := nI_leI (by omega) (by omega)
      rw [k2, bs]
      unfold oE
      dsimp only
      rw [e12, e12, gd_t i1, gd_t i2, c1, c2, h2 k k1, g2 k k1]
      by_cases d : lb y k ≤ lb x k
      · rw [if_pos (eq.mpr d)]
        exact ⟨1, rfl, fun z => absurd z n1, fun z => by have := k4.mpr z; omega⟩
      · rw [if_neg (fun z => d (eq.mp z))]
        exact ⟨-1, rfl, fun _ => k4.mp (by omega), fun _ => n0⟩
  · have ne : ¬ nI w = nI w' := fun z => c ((nI_eq (by omega) (by omega)).mp z)
    rw [if_neg ne]
    by_cases d : w' ≤ w
    · rw [if_pos (nI_le d (by omega))]
      refine ⟨1, rfl, fun z => absurd z n1, fun z => ?_⟩
      have hw : 1073741824 ^ (w - 1) ≤ x := h5.2.resolve_left (by omega)
      have := Nat.pow_le_pow_right (n := 1073741824) (by decide) (show w' ≤ w - 1 by omega)
      have := g5.1
      omega
    · rw [if_neg (nI_ge (by omega) (by omega))]
      refine ⟨-1, rfl, fun _ => ?_, fun _ => n0⟩
      have hw : 1073741824 ^ (w' - 1) ≤ y := g5.2.resolve_left (by omega)
      have := Nat.pow_le_pow_right (n := 1073741824) (by decide) (show w ≤ w' - 1 by omega)
      have := h5.1
      omega
