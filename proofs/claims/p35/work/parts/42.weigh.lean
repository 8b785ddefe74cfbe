/-! the class weighs -/
def EF (u u' : KS) : Prop := (∀ k, gI u' k = gI u k) ∧ (∀ k, k ≠ 11 ∧ k ≠ 12 → gR u' k = gR u k) ∧ (∀ k, k ≠ 0 → gL u' k = gL u k) ∧ (∀ k, k ≠ 0 → gA u' k = gA u k) ∧ gO u' = gO u
theorem EF.rf (u : KS) : EF u u := ⟨fun _ => rfl, fun _ _ => rfl, fun _ _ => rfl, fun _ _ => rfl, rfl⟩
theorem EF.tr {u v w : KS} (h : EF u v) (g : EF v w) : EF u w := ⟨fun k => (g.1 k).trans (h.1 k), fun k hk => (g.2.1 k hk).trans (h.2.1 k hk), fun k hk => (g.2.2.1 k hk).trans (h.2.2.1 k hk), fun k hk => (g.2.2.2.1 k hk).trans (h.2.2.2.1 k hk), g.2.2.2.2.trans h.2.2.2.2⟩
theorem EF.R {u v : KS} (h : EF u v) {k : Nat} (hk : k = 11 ∨ k = 12) (f : Nat → Int32) : EF u (sR v k f) := ⟨h.1, fun j hj => by rw [s_RR, if_neg (by omega)]; exact h.2.1 j hj, h.2.2.1, h.2.2.2.1, h.2.2.2.2⟩
theorem EF.A {u v : KS} (h : EF u v) (f : Nat → Int64) : EF u (sA v 0 f) := ⟨h.1, h.2.1, h.2.2.1, fun j hj => by rw [s_AA, if_neg hj]; exact h.2.2.2.1 j hj, h.2.2.2.2⟩
theorem EF.L {u v : KS} (h : EF u v) (x : Int64) : EF u (sL v 0 x) := ⟨h.1, h.2.1, fun j hj => by rw [s_LL, if_neg hj]; exact h.2.2.1 j hj, h.2.2.2.1, h.2.2.2.2⟩
theorem EF.dr {u v : KS} {D : List (Nat × Nat)} {f : Nat} (h : EF u v) (g : DR u D f) : DR v D f := by
  unfold DR
  rw [h.1 6, h.2.1 7 (by decide), h.2.1 8 (by decide), h.2.1 9 (by decide), h.2.1 10 (by decide)]
  exact g
theorem fd_upL (o : Nat) (v : Nat → Int64) : ∀ (n : Nat) (F : Nat → Int64) (j : Nat), fd (fun k x => vp_updL x (o + k) (v k)) n F j = if o ≤ j ∧ j < o + n then v (j - o) else F j := by
  intro n
  induction n with
  | zero => intro F j; rw [if_neg (by omega)]; rfl
  | succ n ih =>
    intro F j
    rw [fd_s]
    by_cases c : j = o + n
    · rw [c, ul_is, if_pos (by omega), Nat.add_sub_cancel_left]
    · rw [ul_no _ _ _ c, ih]
      by_cases d : o ≤ j ∧ j < o + n
      · rw [if_pos d, if_pos (by omega)]
      · rw [if_neg d, if_neg (by omega)]
theorem e_bring {u : KS} {D : List (Nat × Nat)} {f m c : Nat} (hD : WD D) (hf : f ≤ 100) (h : DR u D f) (hm : m < D.length) (hc : c < 4) : ∃ F, mX0_bring u (nI m) (nI c) = some (sR u 11 F) ∧ ∀ a, a < 21 → F a = nI (gv D f a m c) := by
  have e := lp_fd0 (S := mX0_bring_s3 (nI m) (nI c)) (fun k (y : Nat → Int32) => (nI k, sR u 11 y)) (fun k y => upd y (0 + k) (nI (gv D f k m c))) (fun y => sR u 11 y) 21 (gR u 11)
    (fun k y hk => by
      unfold mX0_bring_s3
      dsimp only
      rw [if_neg (show ¬ (21 : Int32) ≤ nI k from nI_ge (b := 21) hk (by decide)), e_given5 (u := sR u 11 y) hD hf h hk hm hc, bs, gd_t (i_k hk (by decide)), i_cl (by omega), i_s, sR_sR, Nat.zero_add]
      rfl)
    (fun y => by
      unfold mX0_bring_s3
      dsimp only
      rw [if_pos (by decide)])
  rw [sR_self] at e
  refine ⟨_, by
    unfold mX0_bring
    exact (congrArg (fun o => Option.bind o fun e => some e) e).trans rfl, fun a ha => ?_⟩
  rw [fd_up 0 (fun k => nI (gv D f k m c)), if_pos (by omega)]
  rfl
theorem wf_le {pr : Nat → Nat} (hp : ∀ i, i < 7 → pr i ≤ 9) {a : Nat} (ha : a < 21) : wf pr a ≤ 27 := by
  unfold wf
  exact Nat.mul_le_mul (hp (a / 3) (by omega)) (show 3 - a % 3 ≤ 3 by omega)
theorem wB_le {snd : Nat} {pr : Nat → Nat} (hs : snd ≤ 99) (hp : ∀ i, i < 7 → pr i ≤ 9) {g : Nat} (hg : g < 2731) : wB snd pr g ≤ 729 := by
  unfold wB
  split
  · omega
  · split
    · have := wf_le hp (show (g - 1) % 21 < 21 by omega); omega
    · exact Nat.mul_le_mul (wf_le hp (show (g - 85) % 441 / 21 < 21 by omega)) (wf_le hp (show (g - 85) % 441 % 21 < 21 by omega))
theorem e_begin {u : KS} {snd : Nat} {pr : Nat → Nat} (hs : snd ≤ 99) (hp : ∀ i, i < 7 → gR u 3 i = nI (pr i) ∧ pr i ≤ 9) : ∃ u', mX2_begin u (nI snd) = some u' ∧ EF u u' ∧ ∀ g, g < 2731 → gA u' 0 g = lN (wB snd pr g) := by
  have hp9 : ∀ i, i < 7 → pr i ≤ 9 := fun i hi => (hp i hi).2
  have e := lp_fd0 (S := mX2_begin_s2 (nI snd)) (fun k (y : Nat → Int32) => (nI k, sR u 11 y)) (fun k y => upd y (0 + k) (nI (wf pr k))) (fun y => sR u 11 y) 21 (gR u 11)
    (fun k y hk => by
      unfold mX2_begin_s2
      dsimp only
      have e3 : (3 : Int32) - nI (k % 3) = nI (3 - k % 3) := i_sub (a := 3) (by omega) (by decide)
      rw [if_neg (show ¬ (21 : Int32) ≤ nI k from nI_ge (b := 21) hk (by decide)), i_div3 (by omega), i_mod3 (by omega), e3, show gR (sR u 11 y) 3 = gR u 3 from rfl, e_atN (by decide) _ (by omega), bs, (hp (k / 3) (by omega)).1, i_mul, gd_t (i_k hk (by decide)), i_cl (by omega), i_s, sR_sR, Nat.zero_add]
      rfl)
    (fun y => by
      unfold mX2_begin_s2
      dsimp only
      rw [if_pos (by decide)])
  rw [sR_self] at e
  have hF : ∀ a, a < 21 → fd (fun k y => upd y (0 + k) (nI (wf pr k))) 21 (gR u 11) a = nI (wf pr a) := by
    intro a ha
    rw [fd_up 0 (fun k => nI (wf pr k)), if_pos (by omega)]
    rfl
  generalize fd (fun k y => upd y (0 + k) (nI (wf pr k))) 21 (gR u 11) = F at e hF
  obtain ⟨w, hw⟩ : ∃ w : KS, w = sR u 11 F := ⟨_, rfl⟩
  have h11 : ∀ y a, a < 21 → gR (sA w 0 y) 11 a = nI (wf pr a) := fun y a ha => by rw [hw]; exact hF a ha
  have e2 := lp_fd0 (S := mX2_begin_s48) (fun k (y : Nat → Int64) => (nI (1 + k), sA w 0 y)) (fun k y => vp_updL y (1 + k) (lN (wB snd pr (1 + k)))) (fun y => sA w 0 y) 2730 (vp_updL (gA w 0) 0 (lN snd))
    (fun k y hk => by
      unfold mX2_begin_s48
      dsimp only
      rw [if_neg (show ¬ (2731 : Int32) ≤ nI (1 + k) from nI_ge (b := 2731) (by omega) (by decide)), i_s]
      by_cases c : 85 ≤ 1 + k
      · have e8 : nI (1 + k) - 85 = nI (1 + k - 85) := i_sub (b := 85) c (by omega)
        have q1 := wf_le hp9 (show (1 + k - 85) % 441 / 21 < 21 by omega)
        have q2 := wf_le hp9 (show (1 + k - 85) % 441 % 21 < 21 by omega)
        have q3 : wf pr ((1 + k - 85) % 441 / 21) * wf pr ((1 + k - 85) % 441 % 21) ≤ 27 * 27 := Nat.mul_le_mul q1 q2
        rw [if_pos (show (85 : Int32) ≤ nI (1 + k) from nI_le (a := 85) c (by omega)), e8, i_div441 (by omega), i_mod441 (by omega), i_div21 (by omega), i_mod21 (by omega), e_atN (by decide) _ (by omega), bs, e_atN (by decide) _ (by omega), bs, h11 _ _ (by omega), h11 _ _ (by omega), gd_t (i_k (by omega) (by decide)), i_cl (by omega), i_mul, nI_l (by omega), sA_sA]
        unfold wB
        rw [if_neg (show ¬ 1 + k = 0 by omega), if_neg (show ¬ 1 + k < 85 by omega)]
        rfl
      · have e8 : nI (1 + k) - 1 = nI (1 + k - 1) := i_sub (b := 1) (by omega) (by omega)
        have q1 := wf_le hp9 (show (1 + k - 1) % 21 < 21 by omega)
        rw [if_neg (show ¬ (85 : Int32) ≤ nI (1 + k) from nI_ge (b := 85) (by omega) (by decide)), e8, i_div21 (by omega), i_mod21 (by omega), e_atN (by decide) _ (by omega), bs, h11 _ _ (by omega), gd_t (i_k (by omega) (by decide)), i_cl (by omega), show (9 : Int32) = nI 9 from rfl, i_mul, nI_l (by omega), sA_sA]
        unfold wB
        rw [if_neg (show ¬ 1 + k = 0 by omega), if_pos (show 1 + k < 85 by omega)]
        rfl)
    (fun y => by
      unfold mX2_begin_s48
      dsimp only
      rw [if_pos (show (2731 : Int32) ≤ nI (1 + 2730) from by decide)])
  have e0 : mX5_set_ 2731 (gA w 0) 0 ((nI snd).toInt64) = some (vp_updL (gA w 0) 0 (lN snd)) := by
    rw [nI_l (by omega)]
    exact e_setN_ (k := 0) (by decide) _ _ (by decide)
  have e' : lpF (mX2_begin_s2 (nI snd)) (0, u) = some w := by rw [hw]; exact e
  refine ⟨_, by
    unfold mX2_begin
    rw [e', bs, e0, bs]
    exact (congrArg (fun o => Option.bind o fun e => some e) e2).trans rfl, ?_, fun g hg => ?_⟩
  · rw [hw]
    exact ((EF.rf u).R (Or.inl rfl) _).A _
  · show fd (fun k y => vp_updL y (1 + k) (lN (wB snd pr (1 + k)))) 2730 (vp_updL (gA w 0) 0 (lN snd)) g = _
    rw [fd_upL 1 (fun k => lN (wB snd pr (1 + k)))]
    by_cases c : 1 ≤ g
    · rw [if_pos (by omega)]
      rw [show 1 + (g - 1) = g by omega]
    · have hg0 : g = 0 := by omega
      subst hg0
      rw [if_neg (by omega), ul_is]
      rfl
theorem e_lev {x t : Nat} (hx : x < 2147483648) (ht : t < 2147483648) : mX2_levelOf (nI x) (nI t) = some (nI (lev t x)) := by
  unfold mX2_levelOf lev
  have e0 : (nI x = 0) ↔ x = 0 := nI_eq (b := 0) hx (by decide)
  have e1 : (nI t < nI x) ↔ t < x := nI_ltI ht hx
  by_cases c : x = 0
  · rw [if_pos (e0.mpr c), if_pos c]; rfl
  · rw [if_neg (fun q => c (e0.mp q)), if_neg c]
    by_cases d : t < x
    · rw [if_pos (e1.mpr d), if_neg (by omega)]; rfl
    · rw [if_neg (fun q => d (e1.mp q)), if_pos (by omega)]; rfl
theorem am_le {e : Nat → Nat} {B : Nat} (cut : Int) (he : ∀ a, a < 21 → e a ≤ B) {g : Nat} (hg : g < 2731) : am e cut g ≤ 2 * B := by
  unfold am
  split
  · omega
  · split
    · split
      · omega
      · have := he ((g - 1) % 21) (by omega); omega
    · have q1 := he ((g - 85) % 441 / 21) (by omega)
      have q2 := he ((g - 85) % 441 % 21) (by omega)
      split <;> split <;> omega
theorem lev_le (t x : Nat) : lev t x ≤ 2 := by
  unfold lev
  split
  · decide
  · split <;> decide
theorem e_weigh {u : KS} {w x : Nat → Nat} {thin rgt : Nat} {lvl : Int32} (ht : thin ≤ 40) (hr : 1 ≤ rgt ∧ rgt ≤ 9) (hw : ∀ g, g < 2731 → gA u 0 g = lN (w g)) (hx : ∀ g, g < 2731 → gR u 12 g = nI (x g) ∧ x g < 1000) : ∃ G, mX2_weigh u lvl (nI thin) (nI rgt) = some (sA u 0 G) ∧ ∀ g, g < 2731 → G g = lN (w g * (if (lev thin (x g) : Int) = lvl.toInt then 2 * rgt else 10 - rgt)) := by
  have e := lp_fd (S := mX2_weigh_s3 lvl (nI thin) (nI rgt)) (fun k (y : Nat → Int64) => (nI k, sA u 0 y)) (fun k y => vp_updL y (0 + k) (lN (w k * (if (lev thin (x k) : Int) = lvl.toInt then 2 * rgt else 10 - rgt)))) (fun y => sA u 0 y) 2731 (gA u 0) (fun k y => ∀ j, k ≤ j → y j = gA u 0 j) (fun j _ => rfl)
    (fun k y hk hy j hj => by
      rw [ul_no _ _ _ (by omega)]
      exact hy j (by omega))
    (fun k y hk hy => by
      unfold mX2_weigh_s3
      dsimp only
      obtain ⟨h1, h2⟩ := hx k hk
      have hl := lev_le thin (x k)
      have e1 : (nI (lev thin (x k)) = lvl) ↔ ((lev thin (x k) : Int) = lvl.toInt) := by rw [z_eq, z_nN (by omega)]
      have e2 : (2 * nI rgt : Int32).toInt64 = lN (2 * rgt) := by rw [show (2 : Int32) = nI 2 from rfl, i_mul, nI_l (by omega)]
      have e3 : (10 - nI rgt : Int32).toInt64 = lN (10 - rgt) := by rw [show (10 : Int32) = nI 10 from rfl, i_sub (by omega) (by decide), nI_l (by omega)]
      rw [if_neg (show ¬ (2731 : Int32) ≤ nI k from nI_ge (b := 2731) hk (by decide)), show gR (sA u 0 y) 12 = gR u 12 from rfl, e_atN (by decide) _ hk, bs, h1, e_lev (by omega) (by omega), bs, gd_t (i_k hk (by decide)), gd_t (i_k hk (by decide)), gd_t (i_k hk (by decide)), gd_t (i_k hk (by decide)), i_cl (by omega), show gA (sA u 0 y) 0 = y from rfl, hy k (Nat.le_refl _), hw k hk, e2, e3, lN_mul, lN_mul, sA_sA, sA_sA, i_s, Nat.zero_add]
      by_cases c : (lev thin (x k) : Int) = lvl.toInt
      · rw [if_pos (e1.mpr c), if_pos c]
      · rw [if_neg (fun q => c (e1.mp q)), if_neg c])
    (fun y _ => by
      unfold mX2_weigh_s3
      dsimp only
      rw [if_pos (by decide)])
  have es : sA u 0 (gA u 0) = u := sA_self u 0
  rw [es] at e
  refine ⟨_, by
    unfold mX2_weigh
    exact (congrArg (fun o => Option.bind o fun e => some e) e).trans rfl, fun g hg => ?_⟩
  rw [fd_upL 0 (fun k => lN (w k * (if (lev thin (x k) : Int) = lvl.toInt then 2 * rgt else 10 - rgt))), if_pos (by omega)]
  rfl
theorem fd_sm (w : Nat → Nat) : ∀ n, fd (fun k y => y + lN (w k)) n (0 : Int64) = lN (sm w n) := by
  intro n
  induction n with
  | zero => rfl
  | succ n ih => rw [fd_s, ih, lN_add]; rfl
theorem e_total {u : KS} {w : Nat → Nat} (hw : ∀ g, g < 2731 → gA u 0 g = lN (w g)) : mX2_total u = some (sL u 0 (lN (sm w 2731))) := by
  have e := lp_fd0 (S := mX2_total_s15 2731) (fun k (y : Int64) => (nI k, sL u 0 y)) (fun k y => y + lN (w k)) (fun y => sL u 0 y) 2731 0
    (fun k y hk => by
      unfold mX2_total_s15
      dsimp only
      rw [if_neg (show ¬ (2731 : Int32) ≤ nI k from nI_ge (b := 2731) hk (by decide)), gd_t (i_k hk (by decide)), i_cl (by omega), show gA (sL u 0 y) 0 = gA u 0 from rfl, hw k hk, show gL (sL u 0 y) 0 = y from rfl, sL_sL, i_s])
    (fun y => by
      unfold mX2_total_s15
      dsimp only
      rw [if_pos (by decide)])
  rw [fd_sm] at e
  unfold mX2_total
  exact (congrArg (fun o => Option.bind o fun e => some e) e).trans rfl
theorem wL_le {D : List (Nat × Nat)} {f thin rgt snd : Nat} {pr : Nat → Nat} {lk : Nat → Int} (hs : snd ≤ 99) (hp : ∀ i, i < 7 → pr i ≤ 9) (hr : rgt ≤ 9) {g : Nat} (hg : g < 2731) : ∀ k, wL D f thin rgt snd pr lk g k ≤ 729 * 18 ^ k := by
  intro k
  induction k with
  | zero => exact wB_le hs hp hg
  | succ k ih =>
    have e : 729 * 18 ^ (k + 1) = 729 * 18 ^ k * 18 := by rw [Nat.pow_succ, Nat.mul_assoc]
    rw [e]
    unfold wL
    split
    · refine Nat.mul_le_mul ih ?_
      split
      · omega
      · omega
    · omega
theorem wL_bd {D : List (Nat × Nat)} {f thin rgt snd : Nat} {pr : Nat → Nat} {lk : Nat → Int} (hs : snd ≤ 99) (hp : ∀ i, i < 7 → pr i ≤ 9) (hr : rgt ≤ 9) {g k : Nat} (hg : g < 2731) (hk : k ≤ 8) : wL D f thin rgt snd pr lk g k ≤ 8033551259904 := by
  have h1 := wL_le (D := D) (f := f) (thin := thin) (lk := lk) hs hp hr hg k
  have h2 : 18 ^ k ≤ 18 ^ 8 := Nat.pow_le_pow_right (by decide) hk
  have h3 : (18 : Nat) ^ 8 = 11019960576 := by decide
  rw [h3] at h2
  omega
/-- the book's numbers, as plain numbers -/
theorem Ks_n {k : KS} {b : Nat → Int32} (h : Ks k b) : (b 5 = nI (nat (b 5)) ∧ 1 ≤ nat (b 5) ∧ nat (b 5) ≤ 40) ∧ (b 6 = nI (nat (b 6)) ∧ 1 ≤ nat (b 6) ∧ nat (b 6) ≤ 9) ∧ (b 7 = nI (nat (b 7)) ∧ nat (b 7) ≤ 99) ∧ gR k 2 1 = b 5 ∧ gR k 2 2 = b 6 ∧ gR k 2 3 = b 7 := by
  obtain ⟨h0, h4, h5, h6, h7⟩ := h
  obtain ⟨a5, c5⟩ := nat_is (x := b 5) (by omega)
  obtain ⟨a6, c6⟩ := nat_is (x := b 6) (by omega)
  obtain ⟨a7, c7⟩ := nat_is (x := b 7) (by omega)
  exact ⟨⟨a5, by omega, by omega⟩, ⟨a6, by omega, by omega⟩, ⟨a7, by omega⟩, h0 1 (by decide), h0 2 (by decide), h0 3 (by decide)⟩
theorem Kp_n {k : KS} {b : Nat → Int32} (h : Kp k b) : ∀ i, i < 7 → gR k 3 i = nI (bpr b i) ∧ bpr b i ≤ 9 ∧ b (8 + i) = nI (bpr b i) := by
  intro i hi
  obtain ⟨a, c, d⟩ := h i hi
  obtain ⟨e1, e2⟩ := nat_is (x := b (8 + i)) c
  exact ⟨a.trans e1, by show nat (b (8 + i)) ≤ 9; omega, e1⟩
theorem e_weighL {u0 : KS} {b : Nat → Int32} {D : List (Nat × Nat)} {f thin rgt snd K : Nat} {pr : Nat → Nat} (hD : WD D) (hf : f ≤ 100) (hDR : DR u0 D f) (hl : Kl u0 b K) (ht : gR u0 2 1 = nI thin ∧ thin ≤ 40) (hr : gR u0 2 2 = nI rgt ∧ 1 ≤ rgt ∧ rgt ≤ 9) : ∀ n i (u : KS), i + n = K → EF u0 u → (∀ g, g < 2731 → gA u 0 g = lN (wL D f thin rgt snd pr (blk b) g i)) → ∃ u', lpF mX5_weighGuesses_s27 (nI i, u) = some u' ∧ EF u0 u' ∧ ∀ g, g < 2731 → gA u' 0 g = lN (wL D f thin rgt snd pr (blk b) g K) := by
  have hK8 := hl.1
  have hDl := hD.1
  intro n
  induction n with
  | zero =>
    intro i u h0 hE hG
    have h0 : i = K := h0
    subst h0
    refine ⟨u, lp_stop ?_, hE, hG⟩
    unfold mX5_weighGuesses_s27
    dsimp only
    rw [hE.1 3, hl.2.1, if_pos (Int32.le_refl _)]
  | succ n ih =>
    intro i u h0 hE hG
    have hi : i < K := by omega
    obtain ⟨l0, l1, l2, l3⟩ := hl.2.2.2.2 i hi
    have r0 : gR u0 5 (4 * i) = b (20 + 4 * i) := hl.2.2.2.1 _ (by omega)
    have r1 : gR u0 5 (4 * i + 1) = b (20 + (4 * i + 1)) := hl.2.2.2.1 _ (by omega)
    have r2 : gR u0 5 (4 * i + 2) = b (20 + (4 * i + 2)) := hl.2.2.2.1 _ (by omega)
    have r3 : gR u0 5 (4 * i + 3) = b (20 + (4 * i + 3)) := hl.2.2.2.1 _ (by omega)
    obtain ⟨em, zm⟩ := nat_is (x := b (20 + 4 * i)) l0.1
    obtain ⟨ec, zc⟩ := nat_is (x := b (20 + (4 * i + 1))) l1.1
    have e4 : nI i * 4 = nI (4 * i) := by rw [show (4 : Int32) = nI 4 from rfl, i_mul, Nat.mul_comm]
    have a1 : nI (4 * i) + 1 = nI (4 * i + 1) := i_add _ 1
    have a2 : nI (4 * i) + 2 = nI (4 * i + 2) := i_add _ 2
    have a3 : nI (4 * i) + 3 = nI (4 * i + 3) := i_add _ 3
    have hd := hE.dr hDR
    have w_s : ∀ g, wL D f thin rgt snd pr (blk b) g (i + 1) = if (b (20 + 4 * i)).toInt < D.length then wL D f thin rgt snd pr (blk b) g i * (if (lev thin (am (fun a => gv D f a (nat (b (20 + 4 * i))) (nat (b (20 + (4 * i + 1))))) (b (20 + (4 * i + 2))).toInt g) : Int) = (b (20 + (4 * i + 3))).toInt then 2 * rgt else 10 - rgt) else wL D f thin rgt snd pr (blk b) g i := fun g => rfl
    by_cases c : (b (20 + 4 * i)).toInt < D.length
    · obtain ⟨F, b1, b2⟩ := e_bring (u := u) (m := nat (b (20 + 4 * i))) (c := nat (b (20 + (4 * i + 1)))) hD hf hd (by omega) (by omega)
      obtain ⟨G, d1, d2⟩ := e_addUp (u := sR u 11 F) (e := fun a => gv D f a (nat (b (20 + 4 * i))) (nat (b (20 + (4 * i + 1))))) (cut := b (20 + (4 * i + 2))) (fun a ha => b2 a ha)
      obtain ⟨X, f1, f2⟩ := e_weigh (u := sR (sR u 11 F) 12 G) (w := fun g => wL D f thin rgt snd pr (blk b) g i) (x := fun g => am (fun a => gv D f a (nat (b (20 + 4 * i))) (nat (b (20 + (4 * i + 1))))) (b (20 + (4 * i + 2))).toInt g) (thin := thin) (rgt := rgt) (lvl := b (20 + (4 * i + 3))) ht.2 hr.2 hG (fun g hg => ⟨d2 g hg, by
        have := am_le (e := fun a => gv D f a (nat (b (20 + 4 * i))) (nat (b (20 + (4 * i + 1))))) (B := 100) (b (20 + (4 * i + 2))).toInt (fun a ha => Nat.le_of_lt (gv_le _ hD hf ha)) hg
        exact Nat.lt_of_le_of_lt this (by decide)⟩)
      have st : mX5_weighGuesses_s27 (nI i, u) = some (.inr (nI (i + 1), sA (sR (sR u 11 F) 12 G) 0 X)) := by
        unfold mX5_weighGuesses_s27
        dsimp only
        rw [hE.1 3, hl.2.1, if_neg (nI_ge hi (by omega)), e4, a1, a2, a3, hE.2.1 5 (by decide), e_atN (by decide) _ (by omega), bs, r0, e_has hd.1 hDl, bs, b_i2, if_pos ⟨l0.1, c⟩, e_atN (by decide) _ (by omega), bs, r1]
        have b1' : mX0_bring u (b (20 + 4 * i)) (b (20 + (4 * i + 1))) = some (sR u 11 F) := by rw [em, ec]; exact b1
        have g5 : gR (sR u 11 F) 5 = gR u0 5 := hE.2.1 5 (by decide)
        have g5' : gR (sR (sR u 11 F) 12 G) 5 = gR u0 5 := hE.2.1 5 (by decide)
        have g2' : gR (sR (sR u 11 F) 12 G) 2 = gR u0 2 := hE.2.1 2 (by decide)
        have t1 : mX5_at 4 (gR u0 2) 1 = some (nI thin) := by rw [← ht.1]; exact e_atN (k := 1) (by decide) _ (by decide)
        have t2 : mX5_at 4 (gR u0 2) 2 = some (nI rgt) := by rw [← hr.1]; exact e_atN (k := 2) (by decide) _ (by decide)
        rw [b1', bs, g5, e_atN (by decide) _ (by omega), bs, r2, d1, bs, g5', e_atN (by decide) _ (by omega), bs, r3, g2', t1, bs, t2, bs, f1, bs, i_s]
      rw [lp_go st]
      refine ih (i + 1) _ (by omega) (((hE.R (Or.inl rfl) _).R (Or.inr rfl) _).A _) (fun g hg => ?_)
      show X g = _
      rw [f2 g hg, w_s g, if_pos c]
    · have st : mX5_weighGuesses_s27 (nI i, u) = some (.inr (nI (i + 1), u)) := by
        unfold mX5_weighGuesses_s27
        dsimp only
        rw [hE.1 3, hl.2.1, if_neg (nI_ge hi (by omega)), e4, hE.2.1 5 (by decide), e_atN (by decide) _ (by omega), bs, r0, e_has hd.1 hDl, bs, b_i2, if_neg (fun q => c q.2), i_s]
      rw [lp_go st]
      refine ih (i + 1) u (by omega) hE (fun g hg => ?_)
      rw [w_s g, if_neg c]
      exact hG g hg
/-- the weights of the book's guesses -/
def BW (D : List (Nat × Nat)) (b : Nat → Int32) (K : Nat) : Nat → Nat := fun g => wL D (nat (b 4)) (nat (b 5)) (nat (b 6)) (nat (b 7)) (bpr b) (blk b) g K
theorem BW_le {k : KS} {b : Nat → Int32} {L K P : Nat} (h : RK k b L K P) (D : List (Nat × Nat)) : ∀ g, g < 2731 → BW D b K g ≤ 8033551259904 := by
  intro g hg
  obtain ⟨n5, n6, n7, -⟩ := Ks_n h.2.1
  exact wL_bd n7.2 (fun i hi => (Kp_n h.2.2.1 i hi).2.1) n6.2.2 hg h.2.2.2.2.1.1
theorem BW_sm {k : KS} {b : Nat → Int32} {L K P : Nat} (h : RK k b L K P) (D : List (Nat × Nat)) : sm (BW D b K) 2731 < 36028797018963968 := by
  have := sm_le (f := BW D b K) (b := 8033551259904) 2731 (fun g hg => BW_le h D g hg)
  omega
theorem e_weighG {u : KS} {b : Nat → Int32} {L K P : Nat} {D : List (Nat × Nat)} (h : RK u b L K P) (hD : WD D) (hDR : DR u D (nat (b 4))) : ∃ u', mX5_weighGuesses u = some u' ∧ EF u u' ∧ GsOk u' D (nat (b 4)) (nat (b 5)) (nat (b 6)) (nat (b 7)) (bpr b) (blk b) K := by
  obtain ⟨n5, n6, n7, m5, m6, m7⟩ := Ks_n h.2.1
  have f4 := (b4_n h.2.1).2
  obtain ⟨u1, q1, q2, q3⟩ := e_begin (u := u) (snd := nat (b 7)) (pr := bpr b) n7.2 (fun i hi => ⟨(Kp_n h.2.2.1 i hi).1, (Kp_n h.2.2.1 i hi).2.1⟩)
  obtain ⟨u2, r1, r2, r3⟩ := e_weighL (snd := nat (b 7)) (pr := bpr b) hD f4 hDR h.2.2.2.2.1 ⟨m5.trans n5.1, n5.2.2⟩ ⟨m6.trans n6.1, n6.2⟩ K 0 u1 (by omega) q2 q3
  have r1' : lpF mX5_weighGuesses_s27 (0, u1) = some u2 := r1
  have t3 : mX5_at 4 (gR u 2) 3 = some (nI (nat (b 7))) := by rw [← n7.1, ← m7]; exact e_atN (k := 3) (by decide) _ (by decide)
  refine ⟨sL u2 0 (lN (sm (BW D b K) 2731)), by
    unfold mX5_weighGuesses
    rw [t3, bs, q1, bs, r1', bs, e_total (w := BW D b K) r3, bs], r2.L _, r3, rfl⟩
