/-! odds of a cylinder are one together -/
theorem sm_cg {f g : Nat → Nat} : ∀ n, (∀ k, k < n → f k = g k) → sm f n = sm g n := by
  intro n
  induction n with
  | zero => intro _; rfl
  | succ n ih =>
    intro h
    show sm f n + f n = sm g n + g n
    rw [ih (fun k hk => h k (by omega)), h n (Nat.lt_succ_self n)]
theorem sm_add (f g : Nat → Nat) : ∀ n, sm (fun k => f k + g k) n = sm f n + sm g n := by
  intro n
  induction n with
  | zero => rfl
  | succ n ih =>
    show sm (fun k => f k + g k) n + (f n + g n) = sm f n + f n + (sm g n + g n)
    omega
theorem fIn_c {g c : Nat} (hg : g < 2731) : fIn g (nI c) = -1 ∨ ∃ a, a < 21 ∧ fIn g (nI c) = nI a := by
  unfold fIn oneF twoF
  by_cases c1 : oneA g = nI c
  · rw [if_pos c1]
    by_cases g0 : g = 0
    · rw [if_pos g0]; exact Or.inl rfl
    · rw [if_neg g0]
      by_cases g1 : g < 85
      · rw [if_pos g1]; exact Or.inr ⟨_, by omega, rfl⟩
      · rw [if_neg g1]; exact Or.inr ⟨_, by omega, rfl⟩
  · rw [if_neg c1]
    by_cases c2 : twoA g = nI c
    · rw [if_pos c2]
      by_cases g1 : g < 85
      · rw [if_pos g1]; exact Or.inl rfl
      · rw [if_neg g1]; exact Or.inr ⟨_, by omega, rfl⟩
    · rw [if_neg c2]; exact Or.inl rfl
/-- the kind that a guess puts in a cylinder, 7: none -/
theorem kind_c {g c : Nat} (hg : g < 2731) : ∃ κ, κ < 8 ∧ (∀ k, k < 8 → hasK (nI c) (nI k) g = decide (k = κ)) ∧ ((fIn g (nI c) = -1 ∧ κ = 7) ∨ ∃ a, a < 21 ∧ fIn g (nI c) = nI a ∧ κ = a / 3) := by
  rcases fIn_c (c := c) hg with h | ⟨a, ha, h⟩
  · refine ⟨7, by decide, fun k hk => ?_, Or.inl ⟨h, rfl⟩⟩
    have e : hasK (nI c) (nI k) g = true ↔ k = 7 := by
      rw [hasK_T, h, if_pos rfl]
      exact ⟨fun z => ((nI_eq (a := 7) (b := k) (by decide) (by omega)).mp z).symm, fun z => by rw [z]; rfl⟩
    by_cases q : k = 7
    · rw [e.mpr q, decide_eq_true q]
    · rw [decide_eq_false q]
      exact Bool.eq_false_iff.mpr fun z => q (e.mp z)
  · refine ⟨a / 3, by omega, fun k hk => ?_, Or.inr ⟨a, ha, h, rfl⟩⟩
    have e : hasK (nI c) (nI k) g = true ↔ k = a / 3 := by
      rw [hasK_T, h, if_neg (nI_nm1 (by omega)), i_div3 (by omega)]
      exact ⟨fun z => ((nI_eq (a := a / 3) (b := k) (by omega) (by omega)).mp z).symm, fun z => by rw [z]⟩
    by_cases q : k = a / 3
    · rw [e.mpr q, decide_eq_true q]
    · rw [decide_eq_false q]
      exact Bool.eq_false_iff.mpr fun z => q (e.mp z)
theorem sm_one (w : Nat) {κ : Nat} (h : κ < 8) : sm (fun k => if decide (k = κ) = true then w else 0) 8 = w := by
  rcases (show κ = 0 ∨ κ = 1 ∨ κ = 2 ∨ κ = 3 ∨ κ = 4 ∨ κ = 5 ∨ κ = 6 ∨ κ = 7 by omega) with q | q | q | q | q | q | q | q <;> subst q <;> simp [sm]
theorem pK_sum (D : List (Nat × Nat)) (b : Nat → Int32) (K c : Nat) : sm (fun k => pK D b K c k) 8 = TT D b K := by
  have key : ∀ n, n ≤ 2731 → sm (fun k => sel (BW D b K) (hasK (nI c) (nI k)) n) 8 = sm (BW D b K) n := by
    intro n
    induction n with
    | zero => intro _; rfl
    | succ n ih =>
      intro hn
      obtain ⟨κ, h1, h2, -⟩ := kind_c (c := c) (show n < 2731 by omega)
      show sm (fun k => sel (BW D b K) (hasK (nI c) (nI k)) n + (if hasK (nI c) (nI k) n then BW D b K n else 0)) 8 = sm (BW D b K) n + BW D b K n
      rw [sm_add, ih (by omega), sm_cg (g := fun k => if decide (k = κ) = true then BW D b K n else 0) 8 (fun k hk => by rw [h2 k hk]), sm_one _ h1]
  exact key 2731 (Nat.le_refl _)
theorem sel_ge (W : Nat → Nat) (S : Nat → Bool) {g : Nat} (hS : S g = true) : ∀ n, g < n → W g ≤ sel W S n := by
  intro n
  induction n with
  | zero => intro h; omega
  | succ n ih =>
    intro h
    show W g ≤ sel W S n + (if S n then W n else 0)
    by_cases q : g = n
    · subst q
      rw [if_pos hS]
      omega
    · have := ih (by omega)
      omega
/-! fractions added up, to a prime -/
theorem md_step {p s A B Y x i : Nat} (h1 : (s * B) % p = A % p) (h2 : (Y * i) % p = 1 % p) : ((s + x * i) % p * (B * Y)) % p = (A * Y + x * B) % p := by
  have e : (s + x * i) * (B * Y) = s * B * Y + x * B * (Y * i) := by
    rw [Nat.add_mul, Nat.mul_mul_mul_comm, Nat.mul_comm i Y, ← Nat.mul_assoc s B Y]
  have a1 : (s * B * Y) % p = (A * Y) % p := by rw [Nat.mul_mod, h1, ← Nat.mul_mod]
  have a2 : (x * B * (Y * i)) % p = (x * B) % p := by rw [Nat.mul_mod, h2, ← Nat.mul_mod, Nat.mul_one]
  rw [Nat.mul_mod, Nat.mod_mod, ← Nat.mul_mod, e, Nat.add_mod, a1, a2, ← Nat.add_mod]
theorem md_fin {p s B : Nat} (hP : Pm p) (hs : s < p) (hB : B % p ≠ 0) (h : (s * B) % p = B % p) : s = 1 := by
  have hi := inv_mod hP hB
  have a1 : (s * B * B ^ (p - 2)) % p = (B * B ^ (p - 2)) % p := by rw [Nat.mul_mod, h, ← Nat.mul_mod]
  rw [hi, Nat.mul_assoc, Nat.mul_mod, hi, Nat.mul_one, Nat.mod_mod, Nat.mod_eq_of_lt hs] at a1
  exact a1
/-- what is known when so many kinds are added up -/
def OK8 (p T S s : Nat) : Prop := ∃ A B, B % p ≠ 0 ∧ A * T = S * B ∧ (s * B) % p = A % p
theorem OK8.nx {p T S s P X Y g : Nat} (hP : Pm p) (h : OK8 p T S s) (hX : X * g = P) (hY : Y * g = T) (hn : Y % p ≠ 0) : OK8 p T (S + P) ((s + X % p * ((Y % p) ^ (p - 2) % p)) % p) := by
  obtain ⟨A, B, h1, h2, h3⟩ := h
  refine ⟨A * Y + X % p * B + (X / p) * p * B, B * Y, nz_mul hP h1 hn, ?_, ?_⟩
  · have hx : X % p * B + (X / p) * p * B = X * B := by
      rw [← Nat.add_mul]
      congr 1
      have := Nat.div_add_mod X p
      rw [Nat.mul_comm p] at this
      omega
    rw [Nat.add_assoc, hx, Nat.add_mul, Nat.add_mul]
    congr 1
    · rw [Nat.mul_right_comm, h2, Nat.mul_assoc]
    · rw [← hX, ← hY]
      simp only [Nat.mul_comm, Nat.mul_left_comm, Nat.mul_assoc]
  · have hi : (Y * ((Y % p) ^ (p - 2) % p)) % p = 1 % p := by
      have h2' := inv_mod hP (b := Y % p) (by rw [Nat.mod_mod]; exact hn)
      rw [Nat.mul_mod, Nat.mod_mod, ← Nat.mod_mod Y p, ← Nat.mul_mod, Nat.mod_mod, h2', Nat.mod_eq_of_lt (show 1 < p by have := hP.1; omega)]
    rw [md_step h3 hi]
    have : (X / p) * p * B = p * (X / p * B) := by rw [Nat.mul_comm (X / p), Nat.mul_assoc]
    rw [this, Nat.add_mul_mod_self_left]
theorem OK8.fin {p T s : Nat} (hP : Pm p) (hT : 0 < T) (hs : s < p) (h : OK8 p T T s) : s = 1 := by
  obtain ⟨A, B, h1, h2, h3⟩ := h
  have : A = B := Nat.eq_of_mul_eq_mul_right hT (by rw [h2, Nat.mul_comm])
  subst this
  exact md_fin hP hs h1 h3
section ODDS
variable {sa : Nat → Nat} {b : Nat → Int32} {L K : Nat} {O : Nat → Option Nat} {D : List (Nat × Nat)} {F : Nat → Int32}
theorem l750 (hd : day (tx b) L = .inr D) (hT : TT D b K ≠ 0) {c6 c11 : Int32} {c : Nat} (hc : c < 4) : ∀ n k (u : KS) (fl s : Nat), k + n = 8 → ST b L K O F u → fl ≤ 1 → s < 998244353 → (fl = 1 → OK8 998244353 (TT D b K) (sm (fun k => pK D b K c k) k) s) → ∃ u' fl' s', lpF (mL_lawB_s750 sa c6 c11 (nI c)) (nI fl, lN s, nI k, u) = some (nI fl', lN s', u') ∧ ST b L K O F u' ∧ fl' ≤ 1 ∧ (fl' = 1 → s' = 1) := by
  intro n
  induction n with
  | zero =>
    intro k u fl s h0 h h1 h2 h3
    have h0 : k = 8 := h0
    subst h0
    refine ⟨u, fl, s, lp_stop ?_, h, h1, fun q => ?_⟩
    · unfold mL_lawB_s750
      dsimp only
      rw [if_pos (by decide)]
    · have h4 := h3 q
      rw [pK_sum] at h4
      exact h4.fin pm_998 (by omega) h2
  | succ n ih =>
    intro k u fl s h0 h h1 h2 h3
    have hk : k < 8 := by omega
    have hTs := rc_T h.1 D
    obtain ⟨u1, p1, p2, p3⟩ := s_odds h.1 hd hT hc hk
    have h1' := h.nx p2
    have hle : pK D b K c k ≤ TT D b K := sel_le (BW D b K) (hasK (nI c) (nI k)) 2731
    obtain ⟨g, hg⟩ : ∃ g, g = Nat.gcd (pK D b K c k) (TT D b K) := ⟨_, rfl⟩
    have hgP : pK D b K c k / g * g = pK D b K c k := by rw [hg]; exact Nat.div_mul_cancel (Nat.gcd_dvd_left _ _)
    have hgT : TT D b K / g * g = TT D b K := by rw [hg]; exact Nat.div_mul_cancel (Nat.gcd_dvd_right _ _)
    rw [← hg] at p3
    generalize hX : pK D b K c k / g = X at *
    generalize hY : TT D b K / g = Y at *
    have f1 : FX (sR u1 20 (gR u 20)) X Y := p3.row _
    have o0 := s_over f1 (j := 0) (by decide)
    have o1 := s_over f1 (j := 1) (by decide)
    have o0' : mL_over (sR u1 20 (gR u 20)) 0 998244353 = some (lN (X % 998244353), sR u1 20 (gR u 20)) := o0
    have o1' : mL_over (sR u1 20 (gR u 20)) 1 998244353 = some (lN (Y % 998244353), sR u1 20 (gR u 20)) := o1
    have yl : Y % 998244353 < 998244353 := Nat.mod_lt _ (by decide)
    have xl : X % 998244353 < 998244353 := Nat.mod_lt _ (by decide)
    have epw : mL_power (lN (Y % 998244353)) (998244353 - 2) 998244353 = some (lN ((Y % 998244353) ^ (998244353 - 2) % 998244353)) := by
      have e := s_power (p := 998244353) (v := Y % 998244353) (n := 998244353 - 2) (by decide) (by omega) (by decide)
      rw [Nat.mod_mod] at e
      exact e
    have pl : (Y % 998244353) ^ (998244353 - 2) % 998244353 < 998244353 := Nat.mod_lt _ (by decide)
    have hnx := fun (q : fl = 1) (hn : Y % 998244353 ≠ 0) => (h3 q).nx pm_998 hgP hgT hn
    generalize (Y % 998244353) ^ (998244353 - 2) % 998244353 = pw at *
    have hm : X % 998244353 * pw ≤ 998244352 * 998244352 := Nat.mul_le_mul (by omega) (by omega)
    -- behind the test
    have jn : ∀ t : Nat, mL_lawB_s750_j802 sa (sR u1 20 (gR u 20)) c6 c11 (nI c) (lN s) (nI k) (nI t) = some (.inr (nI t, lN ((s + X % 998244353 * pw) % 998244353), nI (k + 1), sR u1 20 (gR u 20))) := by
      intro t
      unfold mL_lawB_s750_j802
      rw [o0', bs]
      dsimp only
      have e0 : sR (sR u1 20 (gR u 20)) 20 (gR (sR u1 20 (gR u 20)) 20) = sR u1 20 (gR u 20) := sR_self _ 20
      rw [e0, o1', bs]
      dsimp only
      rw [epw, bs, e0, i_s, lN_mul, lN_add, show (998244353 : Int64) = lN 998244353 from rfl, l_rem (by omega) (by decide)]
    have hs' : (s + X % 998244353 * pw) % 998244353 < 998244353 := Nat.mod_lt _ (by decide)
    have fin : ∀ t : Nat, t ≤ 1 → mL_lawB_s750 sa c6 c11 (nI c) (nI fl, lN s, nI k, u) = some (.inr (nI t, lN ((s + X % 998244353 * pw) % 998244353), nI (k + 1), sR u1 20 (gR u 20))) → (t = 1 → fl = 1 ∧ Y % 998244353 ≠ 0) → ∃ u' fl' s', lpF (mL_lawB_s750 sa c6 c11 (nI c)) (nI fl, lN s, nI k, u) = some (nI fl', lN s', u') ∧ ST b L K O F u' ∧ fl' ≤ 1 ∧ (fl' = 1 → s' = 1) := by
      intro t ht st hh
      rw [lp_go st]
      exact ih (k + 1) _ t _ (by omega) h1' ht hs' (fun q => hnx (hh q).1 (hh q).2)
    by_cases c0 : fl = 0
    · refine fin 0 (by decide) ?_ (fun q => by omega)
      unfold mL_lawB_s750
      dsimp only
      rw [if_neg (show ¬ (8 : Int32) ≤ nI k from nI_ge (b := 8) hk (by decide)), p1, bs]
      dsimp only
      rw [gd_t rfl, if_pos (show nI fl = 0 by rw [c0]; rfl)]
      exact jn 0
    · have c1 : fl = 1 := by omega
      by_cases cy : Y % 998244353 = 0
      · refine fin 0 (by decide) ?_ (fun q => by omega)
        unfold mL_lawB_s750
        dsimp only
        rw [if_neg (show ¬ (8 : Int32) ≤ nI k from nI_ge (b := 8) hk (by decide)), p1, bs]
        dsimp only
        rw [gd_t rfl, if_neg (show ¬ nI fl = 0 by rw [c1]; decide), o1', bs]
        dsimp only
        rw [if_pos ((lN_0 (by omega)).mpr cy)]
        have e0 : sR (sR u1 20 (gR u 20)) 20 (gR u 20) = sR u1 20 (gR u 20) := sR_sR _ _ _ _
        rw [e0]
        exact jn 0
      · refine fin 1 (by decide) ?_ (fun q => ⟨c1, cy⟩)
        unfold mL_lawB_s750
        dsimp only
        rw [if_neg (show ¬ (8 : Int32) ≤ nI k from nI_ge (b := 8) hk (by decide)), p1, bs]
        dsimp only
        rw [gd_t rfl, if_neg (show ¬ nI fl = 0 by rw [c1]; decide), o1', bs]
        dsimp only
        rw [if_neg (fun z => cy ((lN_0 (by omega)).mp z))]
        have e0 : sR (sR u1 20 (gR u 20)) 20 (gR u 20) = sR u1 20 (gR u 20) := sR_sR _ _ _ _
        rw [e0]
        exact jn 1
theorem l738 (hd : day (tx b) L = .inr D) (hT : TT D b K ≠ 0) {c6 : Int32} {g : Nat} (hg : g < 2731) (hW : 0 < BW D b K g) : ∀ n c (u : KS) (fl : Nat), c + n = 4 → ST b L K O F u → fl ≤ 1 → ∃ u', lpF (mL_lawB_s738 sa c6 (nI g)) (nI fl, nI c, u) = some u' ∧ ST b L K O F u' := by
  intro n
  induction n with
  | zero =>
    intro c u fl h0 h h1
    have h0 : c = 4 := h0
    subst h0
    refine ⟨u, lp_stop ?_, h⟩
    unfold mL_lawB_s738
    dsimp only
    rw [if_pos (by decide)]
  | succ n ih =>
    intro c u fl h0 h h1
    have hc : c < 4 := by omega
    obtain ⟨u1, fl', s', p1, p2, p3, p4⟩ := l750 (sa := sa) (c6 := c6) (c11 := nI g) hd hT hc 8 0 u fl 0 rfl h h1 (by decide) (fun _ => ⟨0, 1, by decide, by rw [Nat.zero_mul]; show 0 = 0 * 1; rfl, by decide⟩)
    have p1' : lpF (mL_lawB_s750 sa c6 (nI g) (nI c)) (nI fl, 0, 0, u) = some (nI fl', lN s', u1) := p1
    obtain ⟨κ, k1, k2, k3⟩ := kind_c (c := c) hg
    have hs0 : sR u1 20 (gR u1 20) = u1 := sR_self _ 20
    -- the odds of the kind it has
    obtain ⟨u2, q1, q2, q3⟩ := s_odds p2.1 hd hT hc k1
    have h2 := p2.nx q2
    have hpos : 0 < pK D b K c κ := Nat.lt_of_lt_of_le hW (sel_ge (BW D b K) (hasK (nI c) (nI κ)) (by rw [k2 κ k1]; exact decide_eq_true rfl) 2731 hg)
    have hxp : 0 < pK D b K c κ / Nat.gcd (pK D b K c κ) (TT D b K) := Nat.div_pos (Nat.gcd_le_left _ hpos) (Nat.gcd_pos_of_pos_left _ hpos)
    have hsg := s_sign0 (q3.row (gR u1 20))
    rw [if_neg (by omega)] at hsg
    have jn : mL_lawB_s738_j883 sa u1 c6 (nI g) (nI fl') (nI c) (nI κ) (nI c) = some (.inr (nI fl', nI (c + 1), sR u2 20 (gR u1 20))) := by
      unfold mL_lawB_s738_j883
      rw [q1, bs]
      dsimp only
      rw [gd_t rfl, hsg, bs]
      dsimp only
      rw [gd_t rfl, i_s, sR_sR]
    have j866 : mL_lawB_s738_j866 sa u1 c6 (nI g) (nI fl') (nI c) (fIn g (nI c)) = some (.inr (nI fl', nI (c + 1), sR u2 20 (gR u1 20))) := by
      unfold mL_lawB_s738_j866
      rcases k3 with ⟨e1, e2⟩ | ⟨a, ha, e1, e2⟩
      · rw [e1, if_neg (by decide)]
        rw [e2] at jn
        exact jn
      · rw [e1, if_pos (nI_pos' (by omega)), i_div3 (by omega), ← e2]
        exact jn
    have st : mL_lawB_s738 sa c6 (nI g) (nI fl, nI c, u) = some (.inr (nI fl', nI (c + 1), sR u2 20 (gR u1 20))) := by
      unfold mL_lawB_s738
      dsimp only
      rw [if_neg (show ¬ (4 : Int32) ≤ nI c from nI_ge (b := 4) hc (by decide)), p1', bs]
      dsimp only
      rw [s_guess hg hc, bs]
      dsimp only
      rw [hs0]
      by_cases c0 : fl' = 0
      · rw [if_pos (show nI fl' = 0 by rw [c0]; rfl), j866]
      · have c1 : fl' = 1 := by omega
        rw [if_neg (show ¬ nI fl' = 0 by rw [c1]; decide), p4 c1, gd_t (by decide), j866]
    rw [lp_go st]
    exact ih (c + 1) _ fl' (by omega) h2 p3
end ODDS
