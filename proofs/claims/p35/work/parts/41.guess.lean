/-! guesses: who has which fault -/
theorem i_div {x n : Nat} (hx : x < 2147483648) (hn : n < 2147483648) : nI x / nI n = nI (x / n) := by
  refine z_inj ?_
  have hle : x / n ≤ x := Nat.div_le_self x n
  rw [Int32.toInt_div, z_bm, z_nN hx, z_nN hn, z_nN (by omega), ← Int.ofNat_tdiv]
  generalize x / n = q at hle
  omega
theorem i_div3 {x : Nat} (hx : x < 2147483648) : nI x / 3 = nI (x / 3) := i_div (n := 3) hx (by decide)
theorem i_div21 {x : Nat} (hx : x < 2147483648) : nI x / 21 = nI (x / 21) := i_div (n := 21) hx (by decide)
theorem i_div441 {x : Nat} (hx : x < 2147483648) : nI x / 441 = nI (x / 441) := i_div (n := 441) hx (by decide)
theorem i_mod3 {x : Nat} (hx : x < 2147483648) : nI x - nI (x / 3) * 3 = nI (x % 3) := by
  rw [show (3 : Int32) = nI 3 from rfl, i_mul, i_sub (by omega) hx]
  congr 1
  omega
theorem i_mod21 {x : Nat} (hx : x < 2147483648) : nI x - nI (x / 21) * 21 = nI (x % 21) := by
  rw [show (21 : Int32) = nI 21 from rfl, i_mul, i_sub (by omega) hx]
  congr 1
  omega
theorem i_mod441 {x : Nat} (hx : x < 2147483648) : nI x - nI (x / 441) * 441 = nI (x % 441) := by
  rw [show (441 : Int32) = nI 441 from rfl, i_mul, i_sub (by omega) hx]
  congr 1
  omega
def oneA (g : Nat) : Int32 := if g = 0 then -1 else if g < 85 then nI ((g - 1) / 21) else nI (pO ((g - 85) / 441))
def twoA (g : Nat) : Int32 := if g < 85 then -1 else nI (pT ((g - 85) / 441))
def oneF (g : Nat) : Int32 := if g = 0 then -1 else if g < 85 then nI ((g - 1) % 21) else nI ((g - 85) % 441 / 21)
def twoF (g : Nat) : Int32 := if g < 85 then -1 else nI ((g - 85) % 441 % 21)
def fIn (g : Nat) (c : Int32) : Int32 := if oneA g = c then oneF g else if twoA g = c then twoF g else -1
theorem e_faultIn {g c : Nat} (hg : g < 2731) (hc : c < 4) : mX2_faultIn (nI g) (nI c) = some (fIn g (nI c)) := by
  unfold mX2_faultIn fIn oneA twoA oneF twoF
  by_cases c0 : g = 0
  · subst c0
    rw [if_neg (show ¬ (1 : Int32) ≤ nI 0 by decide)]
    rcases (show c = 0 ∨ c = 1 ∨ c = 2 ∨ c = 3 by omega) with q | q | q | q <;> subst q <;> rfl
  · rw [if_pos (show (1 : Int32) ≤ nI g from nI_le (a := 1) (by omega) (by omega)), if_neg c0, if_neg c0]
    by_cases c1 : g < 85
    · have e1 : nI g - 1 = nI (g - 1) := i_sub (b := 1) (by omega) (by omega)
      rw [if_neg (show ¬ (85 : Int32) ≤ nI g from nI_ge (b := 85) c1 (by decide)), if_pos c1, if_pos c1, if_pos c1, if_pos c1, e1, i_div21 (by omega), i_mod21 (by omega)]
      by_cases c2 : nI ((g - 1) / 21) = nI c
      · rw [if_pos c2, if_pos c2]
      · rw [if_neg c2, if_neg c2]
        rw [if_neg (fun q => absurd q.symm (nI_nm1 (by omega)))]
    · have e1 : nI g - 85 = nI (g - 85) := i_sub (b := 85) (by omega) (by omega)
      rw [if_pos (show (85 : Int32) ≤ nI g from nI_le (a := 85) (by omega) (by omega)), if_neg c1, if_neg c1, if_neg c1, if_neg c1, e1, i_div441 (by omega), i_mod441 (by omega), i_div21 (by omega), i_mod21 (by omega)]
      have hp : (g - 85) / 441 < 6 := by omega
      generalize (g - 85) / 441 = p at hp
      generalize (g - 85) % 441 = r
      rcases (show p = 0 ∨ p = 1 ∨ p = 2 ∨ p = 3 ∨ p = 4 ∨ p = 5 by omega) with q | q | q | q | q | q <;> subst q <;> rcases (show c = 0 ∨ c = 1 ∨ c = 2 ∨ c = 3 by omega) with q | q | q | q <;> subst q <;> rfl
def opS (v : KS) (g : Nat) : KS := sI (sI (sI (sI v 6 (oneA g)) 7 (twoA g)) 8 (oneF g)) 9 (twoF g)
/-! the class adds up -/
theorem e_set12 {u : KS} {F : Nat → Int32} (k : Nat) (hk : k < 2731) (x : Int32) : mX5_set 2731 F (nI k) x = some (upd F k x) := e_setN (by decide) F x hk
theorem e_pairIn {u : KS} {F e : Nat → Int32} {c2 c3 c6 : Int32} {i : Nat} {x : Int32} {N : Nat} (hN : N + 21 ≤ 2731) (he : ∀ a, a < 21 → gR u 11 a = e a) : lpF (mX2_addUpPair_s45 c2 c3 c6 (nI i) x 21) (nI N, 0, sR u 12 F) = some (nI (N + 21), sR u 12 (fd (fun k y => upd y (N + k) ((if c2 = 0 then x else 0) + (if c3 = 0 then e k else 0))) 21 F)) := by
  have e := lp_fd0 (S := mX2_addUpPair_s45 c2 c3 c6 (nI i) x 21) (fun k (y : Nat → Int32) => (nI (N + k), nI k, sR u 12 y)) (fun k y => upd y (N + k) ((if c2 = 0 then x else 0) + (if c3 = 0 then e k else 0))) (fun y => (nI (N + 21), sR u 12 y)) 21 F
    (fun k y hk => by
      unfold mX2_addUpPair_s45
      dsimp only
      rw [if_neg (show ¬ (21 : Int32) ≤ nI k from nI_ge (b := 21) hk (by decide)), gd_t (i_k hk (by decide)), i_cl (by omega), show gR (sR u 12 y) 11 = gR u 11 from rfl, show gR (sR u 12 y) 12 = y from rfl, he k hk, i_s, i_s]
      simp only [e_setN (show 2731 < 2147483648 by decide) y _ (show N + k < 2731 by omega), bs, sR_sR]
      by_cases d2 : c2 = 0
      · rw [if_pos d2, if_pos d2]
        by_cases d3 : c3 = 0
        · rw [if_pos d3, if_pos d3]; rfl
        · rw [if_neg d3, if_neg d3]; rfl
      · rw [if_neg d2, if_neg d2]
        by_cases d3 : c3 = 0
        · rw [if_pos d3, if_pos d3]; rfl
        · rw [if_neg d3, if_neg d3]; rfl)
    (fun y => by
      unfold mX2_addUpPair_s45
      dsimp only
      rw [if_pos (by decide)])
  exact e
theorem e_pair {u : KS} {F e : Nat → Int32} {c2 c3 : Int32} {N : Nat} (hN : N + 441 ≤ 2731) (he : ∀ a, a < 21 → gR u 11 a = e a) : ∃ F', mX2_addUpPair (sR u 12 F) (nI N) c2 c3 = some (sR u 12 F') ∧ ∀ j, F' j = if N ≤ j ∧ j < N + 441 then (if c2 = 0 then e ((j - N) / 21) else 0) + (if c3 = 0 then e ((j - N) % 21) else 0) else F j := by
  have key : ∀ n i (F0 : Nat → Int32), i + n = 21 → (∀ j, F0 j = if N ≤ j ∧ j < N + 21 * i then (if c2 = 0 then e ((j - N) / 21) else 0) + (if c3 = 0 then e ((j - N) % 21) else 0) else F j) → ∃ F', lpF (mX2_addUpPair_s17 c2 c3 21) (nI (N + 21 * i), nI i, sR u 12 F0) = some (sR u 12 F') ∧ ∀ j, F' j = if N ≤ j ∧ j < N + 441 then (if c2 = 0 then e ((j - N) / 21) else 0) + (if c3 = 0 then e ((j - N) % 21) else 0) else F j := by
    intro n
    induction n with
    | zero =>
      intro i F0 h0 hF
      have h0 : i = 21 := h0
      subst h0
      refine ⟨F0, lp_stop ?_, hF⟩
      unfold mX2_addUpPair_s17
      dsimp only
      rw [if_pos (by decide)]
    | succ n ih =>
      intro i F0 h0 hF
      have q1 := e_pairIn (u := u) (F := F0) (c2 := c2) (c3 := c3) (c6 := 21) (i := i) (x := e i) (N := N + 21 * i) (by omega) he
      have st : mX2_addUpPair_s17 c2 c3 21 (nI (N + 21 * i), nI i, sR u 12 F0) = some (.inr (nI (N + 21 * (i + 1)), nI (i + 1), sR u 12 (fd (fun k y => upd y (N + 21 * i + k) ((if c2 = 0 then e i else 0) + (if c3 = 0 then e k else 0))) 21 F0))) := by
        unfold mX2_addUpPair_s17
        dsimp only
        rw [if_neg (show ¬ (21 : Int32) ≤ nI i from nI_ge (b := 21) (by omega) (by decide)), gd_t (i_k (by omega) (by decide)), i_cl (by omega), show gR (sR u 12 F0) 11 = gR u 11 from rfl, he i (by omega), q1, bs, i_s]
        rfl
      rw [lp_go st]
      refine ih (i + 1) _ (by omega) (fun j => ?_)
      rw [fd_up (N + 21 * i) (fun k => (if c2 = 0 then e i else 0) + (if c3 = 0 then e k else 0)), hF j]
      by_cases c : N + 21 * i ≤ j ∧ j < N + 21 * i + 21
      · rw [if_pos c, if_pos (show N ≤ j ∧ j < N + 21 * (i + 1) by omega), show (j - N) / 21 = i by omega, show (j - N) % 21 = j - (N + 21 * i) by omega]
      · rw [if_neg c]
        by_cases d : N ≤ j ∧ j < N + 21 * i
        · rw [if_pos d, if_pos (show N ≤ j ∧ j < N + 21 * (i + 1) by omega)]
        · rw [if_neg d, if_neg (show ¬ (N ≤ j ∧ j < N + 21 * (i + 1)) by omega)]
  obtain ⟨F', q1, q2⟩ := key 21 0 F rfl (fun j => by rw [if_neg (by omega)])
  refine ⟨F', ?_, q2⟩
  unfold mX2_addUpPair
  exact (congrArg (fun o => Option.bind o fun e => some e) q1).trans rfl
theorem nI_cut {a : Nat} (ha : a < 5) (cut : Int32) : (nI a = cut) ↔ ((a : Int) = cut.toInt) := by
  rw [z_eq, z_nN (by omega)]
theorem e_pairs {u : KS} {e : Nat → Nat} {F : Nat → Int32} {cut : Int32} {p : Nat} (hp : p < 6) (he : ∀ a, a < 21 → gR u 11 a = nI (e a)) (hF : ∀ g, g < 85 + 441 * p → F g = nI (am e cut.toInt g)) : ∃ F', mX2_addUp_s83 cut (nI (pO p)) (nI p, nI (pT p), sR u 12 F) = some (.inr (nI (p + 1), nI (pT p + 1), sR u 12 F')) ∧ ∀ g, g < 85 + 441 * (p + 1) → F' g = nI (am e cut.toInt g) := by
  have hO : pO p < 3 := by unfold pO; split; · decide
                           · split <;> decide
  have hT : pT p < 4 := by unfold pT; split; · omega
                           · split <;> omega
  have eN : (85 : Int32) + nI p * 441 = nI (85 + 441 * p) := by
    rw [show (441 : Int32) = nI 441 from rfl, show (85 : Int32) = nI 85 from rfl, i_mul, i_add, Nat.mul_comm]
  have c1 := nI_cut (a := pO p) (by omega) cut
  have c2 := nI_cut (a := pT p) (by omega) cut
  have fin : ∀ (b2 b3 : Int32), (b2 = 0 ↔ ¬ ((pO p : Int) = cut.toInt)) → (b3 = 0 ↔ ¬ ((pT p : Int) = cut.toInt)) → ∃ F', mX2_addUpPair (sR u 12 F) (nI (85 + 441 * p)) b2 b3 = some (sR u 12 F') ∧ ∀ g, g < 85 + 441 * (p + 1) → F' g = nI (am e cut.toInt g) := by
    intro b2 b3 h2 h3
    obtain ⟨F', q1, q2⟩ := e_pair (u := u) (F := F) (e := fun a => nI (e a)) (c2 := b2) (c3 := b3) (N := 85 + 441 * p) (by omega) he
    refine ⟨F', q1, fun g hg => ?_⟩
    rw [q2 g]
    by_cases c : 85 + 441 * p ≤ g ∧ g < 85 + 441 * p + 441
    · unfold am
      rw [if_pos c, if_neg (show ¬ g = 0 by omega), if_neg (show ¬ g < 85 by omega), show (g - 85) / 441 = p by omega, show (g - 85) % 441 = g - (85 + 441 * p) by omega]
      by_cases d2 : (pO p : Int) = cut.toInt
      · rw [if_neg (fun q => (h2.mp q) d2), if_pos d2]
        by_cases d3 : (pT p : Int) = cut.toInt
        · rw [if_neg (fun q => (h3.mp q) d3), if_pos d3]; rfl
        · rw [if_pos (h3.mpr d3), if_neg d3, Int32.zero_add, Nat.zero_add]
      · rw [if_pos (h2.mpr d2), if_neg d2]
        by_cases d3 : (pT p : Int) = cut.toInt
        · rw [if_neg (fun q => (h3.mp q) d3), if_pos d3, Int32.add_zero, Nat.add_zero]
        · rw [if_pos (h3.mpr d3), if_neg d3, i_add]
    · rw [if_neg c]
      exact hF g (by omega)
  unfold mX2_addUp_s83
  dsimp only
  rw [if_neg (show ¬ (4 : Int32) ≤ nI (pT p) from nI_ge (b := 4) hT (by decide)), eN, i_s, i_s]
  by_cases d1 : nI (pO p) = cut
  · rw [if_pos d1]
    by_cases d2 : nI (pT p) = cut
    · rw [if_pos d2]
      obtain ⟨F', q1, q2⟩ := fin 1 1 ⟨fun q => absurd q (by decide), fun q => absurd (c1.mp d1) q⟩ ⟨fun q => absurd q (by decide), fun q => absurd (c2.mp d2) q⟩
      rw [q1, bs]; exact ⟨F', rfl, q2⟩
    · rw [if_neg d2]
      obtain ⟨F', q1, q2⟩ := fin 1 0 ⟨fun q => absurd q (by decide), fun q => absurd (c1.mp d1) q⟩ ⟨fun _ q => d2 (c2.mpr q), fun _ => rfl⟩
      rw [q1, bs]; exact ⟨F', rfl, q2⟩
  · rw [if_neg d1]
    by_cases d2 : nI (pT p) = cut
    · rw [if_pos d2]
      obtain ⟨F', q1, q2⟩ := fin 0 1 ⟨fun _ q => d1 (c1.mpr q), fun _ => rfl⟩ ⟨fun q => absurd q (by decide), fun q => absurd (c2.mp d2) q⟩
      rw [q1, bs]; exact ⟨F', rfl, q2⟩
    · rw [if_neg d2]
      obtain ⟨F', q1, q2⟩ := fin 0 0 ⟨fun _ q => d1 (c1.mpr q), fun _ => rfl⟩ ⟨fun _ q => d2 (c2.mpr q), fun _ => rfl⟩
      rw [q1, bs]; exact ⟨F', rfl, q2⟩
theorem e_ones {u : KS} {e : Nat → Nat} {F : Nat → Int32} {cut : Int32} {o : Nat} (ho : o < 4) (he : ∀ a, a < 21 → gR u 11 a = nI (e a)) (hF : ∀ g, g < 1 + 21 * o → F g = nI (am e cut.toInt g)) : ∃ F', mX2_addUp_s11 cut (nI o, sR u 12 F) = some (.inr (nI (o + 1), sR u 12 F')) ∧ ∀ g, g < 1 + 21 * (o + 1) → F' g = nI (am e cut.toInt g) := by
  have c1 := nI_cut (a := o) (by omega) cut
  have eq := lp_fd0 (S := mX2_addUp_s18 cut (nI o)) (fun k (y : Nat → Int32) => (nI k, sR u 12 y)) (fun k y => upd y (1 + 21 * o + k) (if nI o = cut then 0 else nI (e k))) (fun y => sR u 12 y) 21 F
    (fun k y hk => by
      unfold mX2_addUp_s18
      dsimp only
      have ei : (1 : Int32) + nI o * 21 + nI k = nI (1 + 21 * o + k) := by
        rw [show (21 : Int32) = nI 21 from rfl, show (1 : Int32) = nI 1 from rfl, i_mul, i_add, i_add, Nat.mul_comm]
      rw [if_neg (show ¬ (21 : Int32) ≤ nI k from nI_ge (b := 21) hk (by decide)), ei, show gR (sR u 12 y) 11 = gR u 11 from rfl, show gR (sR u 12 y) 12 = y from rfl, i_s]
      by_cases d : nI o = cut
      · rw [if_pos d, if_pos d, e_setN (by decide) _ _ (by omega), bs, sR_sR]
      · rw [if_neg d, if_neg d, gd_t (i_k hk (by decide)), i_cl (by omega), he k hk, e_setN (by decide) _ _ (by omega), bs, sR_sR])
    (fun y => by
      unfold mX2_addUp_s18
      dsimp only
      rw [if_pos (by decide)])
  have eq' : lpF (mX2_addUp_s18 cut (nI o)) (0, sR u 12 F) = _ := eq
  refine ⟨_, by
    unfold mX2_addUp_s11
    dsimp only
    rw [if_neg (show ¬ (4 : Int32) ≤ nI o from nI_ge (b := 4) ho (by decide)), eq', bs, i_s], fun g hg => ?_⟩
  rw [fd_up (1 + 21 * o) (fun k => if nI o = cut then 0 else nI (e k))]
  by_cases c : 1 + 21 * o ≤ g ∧ g < 1 + 21 * o + 21
  · unfold am
    rw [if_pos c, if_neg (show ¬ g = 0 by omega), if_pos (show g < 85 by omega), show (g - 1) / 21 = o by omega, show (g - 1) % 21 = g - (1 + 21 * o) by omega]
    by_cases d : nI o = cut
    · rw [if_pos d, if_pos (c1.mp d)]; rfl
    · rw [if_neg d, if_neg (fun q => d (c1.mpr q))]
  · rw [if_neg c]
    exact hF g (by omega)
theorem e_addUp {u : KS} {e : Nat → Nat} {cut : Int32} (he : ∀ a, a < 21 → gR u 11 a = nI (e a)) : ∃ F, mX2_addUp u cut = some (sR u 12 F) ∧ ∀ g, g < 2731 → F g = nI (am e cut.toInt g) := by
  have h0 : ∀ g, g < 1 + 21 * 0 → upd (gR u 12) 0 0 g = nI (am e cut.toInt g) := by
    intro g hg
    have hg : g = 0 := by omega
    subst hg
    rw [u_is]; rfl
  obtain ⟨F1, a1, b1⟩ := e_ones (o := 0) (by decide) he h0
  obtain ⟨F2, a2, b2⟩ := e_ones (o := 1) (by decide) he b1
  obtain ⟨F3, a3, b3⟩ := e_ones (o := 2) (by decide) he b2
  obtain ⟨F4, a4, b4⟩ := e_ones (o := 3) (by decide) he b3
  obtain ⟨G1, p1, r1⟩ := e_pairs (p := 0) (by decide) he b4
  obtain ⟨G2, p2, r2⟩ := e_pairs (p := 1) (by decide) he r1
  obtain ⟨G3, p3, r3⟩ := e_pairs (p := 2) (by decide) he r2
  obtain ⟨G4, p4, r4⟩ := e_pairs (p := 3) (by decide) he r3
  obtain ⟨G5, p5, r5⟩ := e_pairs (p := 4) (by decide) he r4
  obtain ⟨G6, p6, r6⟩ := e_pairs (p := 5) (by decide) he r5
  have en : ∀ F, mX2_addUp_s11 cut (nI 4, sR u 12 F) = some (.inl (sR u 12 F)) := by
    intro F
    unfold mX2_addUp_s11
    dsimp only
    rw [if_pos (by decide)]
  have en3 : ∀ (o p : Nat) F, mX2_addUp_s83 cut (nI o) (nI p, nI 4, sR u 12 F) = some (.inl (nI p, sR u 12 F)) := by
    intro o p F
    unfold mX2_addUp_s83
    dsimp only
    rw [if_pos (by decide)]
  have st7 : ∀ (o p q : Nat) (F G : Nat → Int32), o < 4 → lpF (mX2_addUp_s83 cut (nI o)) (nI p, nI (o + 1), sR u 12 F) = some (nI q, sR u 12 G) → mX2_addUp_s73 cut (nI p, nI o, sR u 12 F) = some (.inr (nI q, nI (o + 1), sR u 12 G)) := by
    intro o p q F G ho h
    unfold mX2_addUp_s73
    dsimp only
    rw [if_neg (show ¬ (4 : Int32) ≤ nI o from nI_ge (b := 4) ho (by decide)), i_s, h, bs]
  have l0 : lpF (mX2_addUp_s83 cut (nI 0)) (nI 0, nI (0 + 1), sR u 12 F4) = some (nI 3, sR u 12 G3) := (lp_go p1).trans ((lp_go p2).trans ((lp_go p3).trans (lp_stop (en3 0 3 G3))))
  have l1 : lpF (mX2_addUp_s83 cut (nI 1)) (nI 3, nI (1 + 1), sR u 12 G3) = some (nI 5, sR u 12 G5) := (lp_go p4).trans ((lp_go p5).trans (lp_stop (en3 1 5 G5)))
  have l2 : lpF (mX2_addUp_s83 cut (nI 2)) (nI 5, nI (2 + 1), sR u 12 G5) = some (nI 6, sR u 12 G6) := (lp_go p6).trans (lp_stop (en3 2 6 G6))
  have l3 : lpF (mX2_addUp_s83 cut (nI 3)) (nI 6, nI (3 + 1), sR u 12 G6) = some (nI 6, sR u 12 G6) := lp_stop (en3 3 6 G6)
  have en7 : mX2_addUp_s73 cut (nI 6, nI 4, sR u 12 G6) = some (.inl (sR u 12 G6)) := by
    unfold mX2_addUp_s73
    dsimp only
    rw [if_pos (by decide)]
  unfold mX2_addUp
  have z0 : mX5_set 2731 (gR u 12) 0 0 = some (upd (gR u 12) 0 0) := e_setN (k := 0) (by decide) _ _ (by decide)
  have y1 : lpF (mX2_addUp_s11 cut) (0, sR u 12 (upd (gR u 12) 0 0)) = some (sR u 12 F4) := (lp_go a1).trans ((lp_go a2).trans ((lp_go a3).trans ((lp_go a4).trans (lp_stop (en F4)))))
  have y2 : lpF (mX2_addUp_s73 cut) (0, 0, sR u 12 F4) = some (sR u 12 G6) := (lp_go (st7 0 0 3 _ _ (by decide) l0)).trans ((lp_go (st7 1 3 5 _ _ (by decide) l1)).trans ((lp_go (st7 2 5 6 _ _ (by decide) l2)).trans ((lp_go (st7 3 6 6 _ _ (by decide) l3)).trans (lp_stop en7))))
  rw [z0, bs, y1, bs, y2, bs]
  exact ⟨G6, rfl, fun g hg => r6 g (by omega)⟩
