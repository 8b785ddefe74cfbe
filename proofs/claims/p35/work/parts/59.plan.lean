/-! harvest, drive: what a day comes to -/
def vW (w : Int32) (s x y : Int64) (l : Nat) : Int64 := ((nI l * w) * 20).toInt64 * s + (nI l).toInt64 * x + (20 - nI l).toInt64 * y
def mX (w : Int32) (s x y : Int64) : Nat → Nat × Int64
  | 0 => (0, vW w s x y 0)
  | l + 1 => if lg_cmp (vW w s x y (l + 1)) (mX w s x y l).2 ≤ 0 then mX w s x y l else (l + 1, vW w s x y (l + 1))
theorem mX_v (w : Int32) (s x y : Int64) : ∀ l, (mX w s x y l).2 = vW w s x y (mX w s x y l).1 ∧ (mX w s x y l).1 ≤ l := by
  intro l
  induction l with
  | zero => exact ⟨rfl, Nat.le_refl _⟩
  | succ l ih =>
    unfold mX
    split
    · exact ⟨ih.1, by omega⟩
    · exact ⟨rfl, Nat.le_refl _⟩
def s20 (k : Nat) : Int64 := lN (20 ^ k)
def dB (w loss : Int32) : Nat → Nat → Int64
  | 0, _ => 0
  | k + 1, d => (mX w (s20 k) (if d = 3 then (-loss).toInt64 * s20 k else dB w loss k (d + 1)) (dB w loss k d) 9).2
def dL9 (w loss : Int32) (k d : Nat) : Nat := (mX w (s20 k) (if d = 3 then (-loss).toInt64 * s20 k else dB w loss k (d + 1)) (dB w loss k d) 9).1
/-! the class -/
def CF (u u' : KS) : Prop := (∀ k, k ≠ 10 → gI u' k = gI u k) ∧ gR u' = gR u ∧ (∀ k, k ≠ 1 → gL u' k = gL u k) ∧ (∀ k, k ≠ 1 → gA u' k = gA u k) ∧ gO u' = gO u
theorem CF.rf (u : KS) : CF u u := ⟨fun _ _ => rfl, rfl, fun _ _ => rfl, fun _ _ => rfl, rfl⟩
theorem CF.tr {u v w : KS} (h : CF u v) (g : CF v w) : CF u w := ⟨fun k hk => (g.1 k hk).trans (h.1 k hk), g.2.1.trans h.2.1, fun k hk => (g.2.2.1 k hk).trans (h.2.2.1 k hk), fun k hk => (g.2.2.2.1 k hk).trans (h.2.2.2.1 k hk), g.2.2.2.2.trans h.2.2.2.2⟩
theorem CF.I {u v : KS} (h : CF u v) (x : Int32) : CF u (sI v 10 x) := ⟨fun j hj => by rw [s_II, if_neg hj]; exact h.1 j hj, h.2.1, h.2.2.1, h.2.2.2.1, h.2.2.2.2⟩
theorem CF.L {u v : KS} (h : CF u v) (x : Int64) : CF u (sL v 1 x) := ⟨h.1, h.2.1, fun j hj => by rw [s_LL, if_neg hj]; exact h.2.2.1 j hj, h.2.2.2.1, h.2.2.2.2⟩
theorem CF.A {u v : KS} (h : CF u v) (f : Nat → Int64) : CF u (sA v 1 f) := ⟨h.1, h.2.1, h.2.2.1, fun j hj => by rw [s_AA, if_neg hj]; exact h.2.2.2.1 j hj, h.2.2.2.2⟩
theorem e_worth {u : KS} {d : Nat} {w : Int32} (hd : d ≤ 3) (l : Nat) : mX4_worth u (nI d) w (nI l) = some (vW w (gL u 1) (gA u 1 (d + 1)) (gA u 1 d) l) := by
  unfold mX4_worth vW
  rw [i_s, e_atN_ (by decide) _ (by omega), bs, e_atN_ (by decide) _ (by omega), bs]
theorem e_bestLoad {u : KS} {d : Nat} {w : Int32} (hd : d ≤ 3) : mX4_bestLoad u (nI d) w = some (nI (mX w (gL u 1) (gA u 1 (d + 1)) (gA u 1 d) 9).1) := by
  have key : ∀ n l, l + n = 9 → lpF (mX4_bestLoad_s14 u (nI d) w) (nI (mX w (gL u 1) (gA u 1 (d + 1)) (gA u 1 d) l).1, (mX w (gL u 1) (gA u 1 (d + 1)) (gA u 1 d) l).2, nI (l + 1)) = some (nI (mX w (gL u 1) (gA u 1 (d + 1)) (gA u 1 d) 9).1) := by
    intro n
    induction n with
    | zero =>
      intro l h0
      have h0 : l = 9 := h0
      subst h0
      refine lp_stop ?_
      unfold mX4_bestLoad_s14
      dsimp only
      rw [if_pos (by decide)]
    | succ n ih =>
      intro l h0
      have st : mX4_bestLoad_s14 u (nI d) w (nI (mX w (gL u 1) (gA u 1 (d + 1)) (gA u 1 d) l).1, (mX w (gL u 1) (gA u 1 (d + 1)) (gA u 1 d) l).2, nI (l + 1)) = some (.inr (nI (mX w (gL u 1) (gA u 1 (d + 1)) (gA u 1 d) (l + 1)).1, (mX w (gL u 1) (gA u 1 (d + 1)) (gA u 1 d) (l + 1)).2, nI (l + 1 + 1))) := by
        have e : mX w (gL u 1) (gA u 1 (d + 1)) (gA u 1 d) (l + 1) = if lg_cmp (vW w (gL u 1) (gA u 1 (d + 1)) (gA u 1 d) (l + 1)) (mX w (gL u 1) (gA u 1 (d + 1)) (gA u 1 d) l).2 ≤ 0 then mX w (gL u 1) (gA u 1 (d + 1)) (gA u 1 d) l else (l + 1, vW w (gL u 1) (gA u 1 (d + 1)) (gA u 1 d) (l + 1)) := rfl
        unfold mX4_bestLoad_s14
        dsimp only
        rw [if_neg (show ¬ (9 : Int32) < nI (l + 1) from nI_nlt (a := 9) (by omega) (by decide)), e_worth hd, bs, i_s, e]
        by_cases c : lg_cmp (vW w (gL u 1) (gA u 1 (d + 1)) (gA u 1 d) (l + 1)) (mX w (gL u 1) (gA u 1 (d + 1)) (gA u 1 d) l).2 ≤ 0
        · rw [if_pos c, if_pos c]
        · rw [if_neg c, if_neg c]
      rw [lp_go st]
      exact ih (l + 1) (by omega)
  have h := key 9 0 rfl
  unfold mX4_bestLoad
  rw [show (0 : Int32) = nI 0 from rfl, e_worth hd, bs]
  exact (congrArg (fun o => Option.bind o fun e => some e) h).trans rfl
section DAY5
variable {w loss : Int32} {deep k : Nat} {c2 c5 : Int32}
theorem e_day5 {u0 : KS} (hdp : 1 ≤ deep ∧ deep ≤ 3) (hs : gL u0 1 = s20 k) (h4 : gA u0 1 4 = (-loss).toInt64 * s20 k) (hb : ∀ d, 1 ≤ d → d ≤ 3 → gA u0 1 d = dB w loss k d) : ∃ u', lpF (mX4_make_s47 (nI deep) c2 w loss c5) (1, u0) = some u' ∧ CF u0 u' ∧ gL u' 1 = s20 k ∧ (∀ d, 1 ≤ d → d ≤ 3 → gA u' 1 d = dB w loss (k + 1) d) ∧ gI u' 10 = nI (dL9 w loss k deep) := by
  have key : ∀ n d (u : KS), d + n = 4 → 1 ≤ d → CF u0 u → gL u 1 = s20 k → gA u 1 4 = (-loss).toInt64 * s20 k → (∀ j, d ≤ j → j ≤ 3 → gA u 1 j = dB w loss k j) → (∀ j, 1 ≤ j → j < d → gA u 1 j = dB w loss (k + 1) j) → (deep < d → gI u 10 = nI (dL9 w loss k deep)) → ∃ u', lpF (mX4_make_s47 (nI deep) c2 w loss c5) (nI d, u) = some u' ∧ CF u0 u' ∧ gL u' 1 = s20 k ∧ (∀ d, 1 ≤ d → d ≤ 3 → gA u' 1 d = dB w loss (k + 1) d) ∧ gI u' 10 = nI (dL9 w loss k deep) := by
    intro n
    induction n with
    | zero =>
      intro d u h0 h1 h2 h3 h4 h5 h6 h7
      have h0 : d = 4 := h0
      subst h0
      refine ⟨u, lp_stop ?_, h2, h3, fun d a b => h6 d a (by omega), h7 (by omega)⟩
      unfold mX4_make_s47
      dsimp only
      rw [if_pos (by decide)]
    | succ n ih =>
      intro d u h0 h1 h2 h3 h4 h5 h6 h7
      have hd : d ≤ 3 := by omega
      have hx : gA u 1 (d + 1) = if d = 3 then (-loss).toInt64 * s20 k else dB w loss k (d + 1) := by
        by_cases c : d = 3
        · rw [if_pos c, c]; exact h4
        · rw [if_neg c]; exact h5 (d + 1) (by omega) (by omega)
      have hy : gA u 1 d = dB w loss k d := h5 d (Nat.le_refl _) hd
      have hbl := e_bestLoad (u := u) (w := w) hd
      have hwt := e_worth (u := u) (w := w) hd (mX w (gL u 1) (gA u 1 (d + 1)) (gA u 1 d) 9).1
      rw [← (mX_v w (gL u 1) (gA u 1 (d + 1)) (gA u 1 d) 9).1] at hwt
      rw [h3, hx, hy] at hbl hwt
      have hbl' : mX4_bestLoad u (nI d) w = some (nI (dL9 w loss k d)) := hbl
      have hwt' : mX4_worth u (nI d) w (nI (dL9 w loss k d)) = some (dB w loss (k + 1) d) := hwt
      have eq : (nI d = nI deep) ↔ d = deep := nI_eq (by omega) (by omega)
      have st : mX4_make_s47 (nI deep) c2 w loss c5 (nI d, u) = some (.inr (nI (d + 1), if d = deep then sI (sA u 1 (vp_updL (gA u 1) d (dB w loss (k + 1) d))) 10 (nI (dL9 w loss k d)) else sA u 1 (vp_updL (gA u 1) d (dB w loss (k + 1) d)))) := by
        unfold mX4_make_s47
        dsimp only
        rw [if_neg (show ¬ (3 : Int32) < nI d from nI_nlt (a := 3) hd (by decide)), hbl', bs, hwt', bs, e_setN_ (by decide) _ _ (by omega), bs, i_s]
        by_cases c : d = deep
        · rw [if_pos (eq.mpr c), if_pos c]
        · rw [if_neg (fun z => c (eq.mp z)), if_neg c]
      have hA : ∀ v : KS, v = (if d = deep then sI (sA u 1 (vp_updL (gA u 1) d (dB w loss (k + 1) d))) 10 (nI (dL9 w loss k d)) else sA u 1 (vp_updL (gA u 1) d (dB w loss (k + 1) d))) → CF u0 v ∧ gL v 1 = gL u 1 ∧ gA v 1 = vp_updL (gA u 1) d (dB w loss (k + 1) d) ∧ gI v 10 = if d = deep then nI (dL9 w loss k d) else gI u 10 := by
        intro v hv
        by_cases c : d = deep
        · rw [if_pos c] at hv ⊢
          subst hv
          exact ⟨(h2.A _).I _, rfl, rfl, rfl⟩
        · rw [if_neg c] at hv ⊢
          subst hv
          exact ⟨h2.A _, rfl, rfl, rfl⟩
      obtain ⟨g1, g2, g3, g4⟩ := hA _ rfl
      rw [lp_go st]
      refine ih (d + 1) _ (by omega) (by omega) g1 (g2.trans h3) ?_ (fun j a b => ?_) (fun j a b => ?_) (fun a => ?_)
      · rw [g3, ul_no _ _ _ (by omega)]; exact h4
      · rw [g3, ul_no _ _ _ (by omega)]; exact h5 j (by omega) b
      · rw [g3]
        by_cases c : j = d
        · rw [c, ul_is]
        · rw [ul_no _ _ _ c]; exact h6 j a (by omega)
      · rw [g4]
        by_cases c : d = deep
        · rw [if_pos c, c]
        · rw [if_neg c]; exact h7 (by omega)
  exact key 3 1 u0 rfl (Nat.le_refl _) (CF.rf u0) hs h4 (fun j a b => hb j a b) (fun j a b => by omega) (fun a => by omega)
end DAY5
theorem e_fill0 (f : Nat → Int64) : ∃ g, mJ7_fill_d0a16 5 f 0 = some g ∧ ∀ k, k < 5 → g k = 0 := by
  have e := lp_fd0 (S := mJ7_fill_d0a16_s6 5 0 (Int32.ofNat 5)) (fun k (y : Nat → Int64) => (nI k, y)) (fun k y => vp_updL y (0 + k) 0) (fun y => y) 5 f
    (fun k y hk => by
      unfold mJ7_fill_d0a16_s6
      dsimp only
      rw [if_neg (show ¬ Int32.ofNat 5 ≤ nI k from nI_ge hk (by decide)), gd_t (i_k hk (by decide)), i_cl (by omega), i_s, Nat.zero_add])
    (fun y => by
      unfold mJ7_fill_d0a16_s6
      dsimp only
      rw [if_pos (by decide)])
  refine ⟨_, by
    unfold mJ7_fill_d0a16
    exact (congrArg (fun o => Option.bind o fun e => some e) e).trans rfl, fun k hk => ?_⟩
  rw [fd_upL 0 (fun _ => 0), if_pos (by omega)]
theorem s20_s (k : Nat) : s20 k * 20 = s20 (k + 1) := by
  unfold s20
  rw [show (20 : Int64) = lN 20 from rfl, lN_mul, Nat.pow_succ]
theorem e_make {u : KS} {deep n : Nat} {w loss : Int32} (hdp : 1 ≤ deep ∧ deep ≤ 3) (hn : n ≤ 10) : ∃ u', mX4_make u (nI deep) (nI n) w loss = some u' ∧ CF u u' ∧ gL u' 1 = s20 n ∧ (∀ d, 1 ≤ d → d ≤ 3 → gA u' 1 d = dB w loss n d) ∧ gI u' 10 = if n = 0 then 0 else nI (dL9 w loss (n - 1) deep) := by
  obtain ⟨g, g1, g2⟩ := e_fill0 (gA u 1)
  have key : ∀ m k (v : KS), k + m = n → CF u v → gL v 1 = s20 k → (∀ d, 1 ≤ d → d ≤ 3 → gA v 1 d = dB w loss k d) → (gI v 10 = if k = 0 then 0 else nI (dL9 w loss (k - 1) deep)) → ∃ u', lpF (mX4_make_s21 (nI deep) (nI n) w loss) (nI (k + 1), v) = some u' ∧ CF u u' ∧ gL u' 1 = s20 n ∧ (∀ d, 1 ≤ d → d ≤ 3 → gA u' 1 d = dB w loss n d) ∧ gI u' 10 = if n = 0 then 0 else nI (dL9 w loss (n - 1) deep) := by
    intro m
    induction m with
    | zero =>
      intro k v h0 h1 h2 h3 h4
      have h0 : k = n := h0
      subst h0
      refine ⟨v, lp_stop ?_, h1, h2, h3, h4⟩
      unfold mX4_make_s21
      dsimp only
      rw [if_pos (nI_lt (by omega) (by omega))]
    | succ m ih =>
      intro k v h0 h1 h2 h3 h4
      obtain ⟨v1, q1, q2, q3, q4, q5⟩ := e_day5 (w := w) (loss := loss) (k := k) (c2 := nI n) (c5 := nI (k + 1)) (u0 := sA v 1 (vp_updL (gA v 1) 4 ((-loss).toInt64 * s20 k))) hdp h2 (show vp_updL (gA v 1) 4 _ 4 = _ from ul_is _ _ _) (fun d a b => by
        show vp_updL (gA v 1) 4 _ d = _
        rw [ul_no _ _ _ (by omega)]; exact h3 d a b)
      have s4 : mX5_set_ 5 (gA v 1) 4 ((-loss).toInt64 * s20 k) = some (vp_updL (gA v 1) 4 ((-loss).toInt64 * s20 k)) := e_setN_ (k := 4) (by decide) _ _ (by decide)
      have st : mX4_make_s21 (nI deep) (nI n) w loss (nI (k + 1), v) = some (.inr (nI (k + 1 + 1), sL v1 1 (s20 (k + 1)))) := by
        unfold mX4_make_s21
        dsimp only
        rw [if_neg (nI_nlt (by omega) (by omega)), h2, s4, bs, q1, bs, q3, s20_s, i_s]
      rw [lp_go st]
      refine ih (k + 1) _ (by omega) (((h1.A _).tr q2).L _) rfl (fun d a b => q4 d a b) ?_
      show gI v1 10 = _
      rw [q5, if_neg (by omega), Nat.add_sub_cancel]
  obtain ⟨u', q1, q2⟩ := key n 0 (sL (sI (sA u 1 g) 10 0) 1 1) (by omega) ((((CF.rf u).A _).I _).L _) rfl (fun d a b => g2 d (by omega)) rfl
  have q1' : lpF (mX4_make_s21 (nI deep) (nI n) w loss) (1, sL (sI (sA u 1 g) 10 0) 1 1) = some u' := q1
  refine ⟨u', ?_, q2⟩
  unfold mX4_make
  rw [g1, bs, q1', bs]
/-! the model -/
def VF (u u' : KS) : Prop := (∀ k, k ≠ 10 → gI u' k = gI u k) ∧ gR u' = gR u ∧ gL u' = gL u ∧ (∀ k, k ≠ 2 → gA u' k = gA u k) ∧ gO u' = gO u
theorem VF.rf (u : KS) : VF u u := ⟨fun _ _ => rfl, rfl, rfl, fun _ _ => rfl, rfl⟩
theorem VF.tr {u v w : KS} (h : VF u v) (g : VF v w) : VF u w := ⟨fun k hk => (g.1 k hk).trans (h.1 k hk), g.2.1.trans h.2.1, g.2.2.1.trans h.2.2.1, fun k hk => (g.2.2.2.1 k hk).trans (h.2.2.2.1 k hk), g.2.2.2.2.trans h.2.2.2.2⟩
theorem VF.I {u v : KS} (h : VF u v) (x : Int32) : VF u (sI v 10 x) := ⟨fun j hj => by rw [s_II, if_neg hj]; exact h.1 j hj, h.2.1, h.2.2.1, h.2.2.2.1, h.2.2.2.2⟩
theorem VF.A {u v : KS} (h : VF u v) (f : Nat → Int64) : VF u (sA v 2 f) := ⟨h.1, h.2.1, h.2.2.1, fun j hj => by rw [s_AA, if_neg hj]; exact h.2.2.2.1 j hj, h.2.2.2.2⟩
theorem v6_is {ω l : Nat} (hω : ω ≤ 999) (hl : l ≤ 9) (k : Nat) (x y : Int64) : (nI l * nI ω).toInt64 * (s20 k * 20) + (nI l).toInt64 * x + (20 - nI l).toInt64 * y = vW (nI ω) (s20 k) x y l := by
  have hm : l * ω ≤ 9 * 999 := Nat.mul_le_mul hl hω
  unfold vW
  congr 2
  rw [show (20 : Int32) = nI 20 from rfl, i_mul, i_mul, nI_l (by omega), nI_l (by omega), ← lN_mul (l * ω) 20, Int64.mul_assoc, Int64.mul_comm (lN 20)]
  rfl
section DAY6
variable {ω : Nat} {loss c2 : Int32} {deep k : Nat}
/-- what stands for a deeper one -/
def xD (w loss : Int32) (k d : Nat) : Int64 := if d = 3 then (-loss).toInt64 * s20 k else dB w loss k (d + 1)
end DAY6
