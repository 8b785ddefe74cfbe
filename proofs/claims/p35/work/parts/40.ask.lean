/-! days asked: warm, gives, smoke, goes, hidden -/
theorem e_has {u : KS} {n : Nat} (h : gI u 6 = nI n) (hn : n ≤ 120) (a : Int32) : mX0_has u a = some (if 0 ≤ a.toInt ∧ a.toInt < (n : Int) then 1 else 0) := by
  have zn : (nI n).toInt = (n : Int) := z_nN (by omega)
  unfold mX0_has
  rw [h]
  by_cases c1 : a < 0
  · rw [if_pos c1, if_neg]
    rw [z_lt, show (0 : Int32).toInt = 0 from rfl] at c1
    omega
  · rw [if_neg c1]
    rw [z_lt, show (0 : Int32).toInt = 0 from rfl] at c1
    by_cases c2 : nI n ≤ a
    · rw [if_pos c2, if_neg]
      rw [z_le, zn] at c2
      omega
    · rw [if_neg c2, if_pos]
      rw [z_le, zn] at c2
      omega
theorem n_ex {a : Int32} {n : Nat} (h : 0 ≤ a.toInt ∧ a.toInt ≤ (n : Int)) : ∃ m, m ≤ n ∧ a = nI m := by
  obtain ⟨g1, g2⟩ := nat_is (x := a) h.1
  exact ⟨nat a, by omega, g1⟩
/-- what a cylinder smokes -/
def cyv (D : List (Nat × Nat)) (f : Nat) (b : Nat → Int32) (m c k : Nat) : Int32 := if b (15 + k) = -1 then 0 else nI (gv D f (nat (b (15 + k))) m c)
def smk (D : List (Nat × Nat)) (f : Nat) (b : Nat → Int32) (m c : Nat) (cut : Int32) : Int32 := fd (fun k x => if nI k = cut then x else x + cyv D f b m c k) 4 0
theorem e_smoke5 {u : KS} {D : List (Nat × Nat)} {f m c : Nat} {b : Nat → Int32} (hD : WD D) (hf : f ≤ 100) (h : DR u D f) (hK : Km u b) (hm : m < D.length) (hc : c < 4) (cut : Int32) : mX5_smokeOf u (nI m) (nI c) cut = some (smk D f b m c cut) := by
  have e := lp_fd0 (S := mX5_smokeOf_s6 u (nI m) (nI c) cut) (fun k (x : Int32) => (x, nI k)) (fun k x => if nI k = cut then x else x + cyv D f b m c k) id 4 0
    (fun k x hk => by
      unfold mX5_smokeOf_s6 cyv
      dsimp only
      rw [if_neg (show ¬ (4 : Int32) ≤ nI k from nI_ge (b := 4) hk (by decide)), e_atN (by decide) _ hk, bs, (hK k hk).1, i_s]
      by_cases c1 : b (15 + k) = -1
      · rw [if_pos c1, if_pos c1, Int32.add_zero]
        split <;> rfl
      · rw [if_neg c1, if_neg c1]
        by_cases c2 : nI k = cut
        · rw [if_pos c2, if_pos c2]
        · rw [if_neg c2, if_neg c2]
          have hk2 := (hK k hk).2
          have hne : (b (15 + k)).toInt ≠ -1 := fun q => c1 ((m1_eq _).mpr q)
          obtain ⟨g1, g2⟩ := nat_is (x := b (15 + k)) (by omega)
          have g3 : nat (b (15 + k)) < 21 := by omega
          have e5 := e_given5 hD hf h g3 hm hc
          rw [← g1] at e5
          rw [e5, bs])
    (fun x => by
      unfold mX5_smokeOf_s6
      dsimp only
      rw [if_pos (by decide)]
      rfl)
  unfold mX5_smokeOf
  exact (congrArg (fun o => Option.bind o fun e => some e) e).trans rfl
theorem Km_r {u : KS} {b : Nat → Int32} (h : Km u b) : ∀ i, i < 4 → -1 ≤ (b (15 + i)).toInt ∧ (b (15 + i)).toInt ≤ 20 := fun i hi => (h i hi).2
/-! hidden -/
theorem gn12 {u : KS} {D : List (Nat × Nat)} {f a m : Nat} (hD : WD D) (hf : f ≤ 100) (h : DR u D f) (ha : a < 21) (hm : m < D.length) : ∀ n c0, c0 + n = 4 → ((∀ c, c0 ≤ c → c < 4 → gv D f a m c = 0) → lpF (mX0_givesNothing_s12 u (nI a) (nI m)) (nI c0) = some (.inl ())) ∧ ((∃ c, c0 ≤ c ∧ c < 4 ∧ gv D f a m c ≠ 0) → lpF (mX0_givesNothing_s12 u (nI a) (nI m)) (nI c0) = some (.inr ())) := by
  intro n
  induction n with
  | zero =>
    intro c0 h0
    have h0 : c0 = 4 := h0
    subst h0
    refine ⟨fun _ => lp_stop ?_, fun ⟨c, q1, q2, _⟩ => by omega⟩
    unfold mX0_givesNothing_s12
    rw [if_pos (by decide)]
  | succ n ih =>
    intro c0 h0
    have hg := gv_le c0 (m := m) hD hf ha
    have le0 : (nI (gv D f a m c0) ≤ 0) ↔ gv D f a m c0 = 0 := by
      rw [show (0 : Int32) = nI 0 from rfl, nI_leI (by omega) (by decide)]; omega
    have st : mX0_givesNothing_s12 u (nI a) (nI m) (nI c0) = if gv D f a m c0 = 0 then some (.inr (nI (c0 + 1))) else some (.inl (.inr ())) := by
      unfold mX0_givesNothing_s12
      rw [if_neg (show ¬ (4 : Int32) ≤ nI c0 from nI_ge (b := 4) (by omega) (by decide)), e_given5 hD hf h ha hm (by omega), bs, i_s]
      by_cases c : gv D f a m c0 = 0
      · rw [if_pos (le0.mpr c), if_pos c]
      · rw [if_neg (fun q => c (le0.mp q)), if_neg c]
    by_cases c : gv D f a m c0 = 0
    · rw [if_pos c] at st
      rw [lp_go st]
      refine ⟨fun q => (ih (c0 + 1) (by omega)).1 (fun c' q1 q2 => q c' (by omega) q2), fun ⟨c', q1, q2, q3⟩ => (ih (c0 + 1) (by omega)).2 ⟨c', ?_, q2, q3⟩⟩
      by_cases r : c' = c0
      · rw [r] at q3; exact absurd c q3
      · omega
    · rw [if_neg c] at st
      exact ⟨fun q => absurd (q c0 (Nat.le_refl _) (by omega)) c, fun _ => lp_stop st⟩
theorem gn2 {u : KS} {D : List (Nat × Nat)} {f a : Nat} (hD : WD D) (hf : f ≤ 100) (h : DR u D f) (ha : a < 21) : ∀ n m0, m0 + n = D.length → ((∀ m c, m0 ≤ m → m < D.length → c < 4 → gv D f a m c = 0) → lpF (mX0_givesNothing_s2 u (nI a)) (nI m0) = some (.inl ())) ∧ ((∃ m c, m0 ≤ m ∧ m < D.length ∧ c < 4 ∧ gv D f a m c ≠ 0) → lpF (mX0_givesNothing_s2 u (nI a)) (nI m0) = some (.inr ())) := by
  have hDl := hD.1
  intro n
  induction n with
  | zero =>
    intro m0 h0
    have h0 : m0 = D.length := h0
    refine ⟨fun _ => lp_stop ?_, fun ⟨m, c, q1, q2, _⟩ => by omega⟩
    unfold mX0_givesNothing_s2
    rw [h.1, h0, if_pos (Int32.le_refl _)]
  | succ n ih =>
    intro m0 h0
    obtain ⟨g1, g2⟩ := gn12 hD hf h ha (show m0 < D.length by omega) 4 0 rfl
    by_cases c : ∀ c, 0 ≤ c → c < 4 → gv D f a m0 c = 0
    · have st : mX0_givesNothing_s2 u (nI a) (nI m0) = some (.inr (nI (m0 + 1))) := by
        unfold mX0_givesNothing_s2
        rw [h.1, if_neg (nI_ge (by omega) (by omega)), show (0 : Int32) = nI 0 from rfl, g1 c, bs, i_s]
        rfl
      rw [lp_go st]
      refine ⟨fun q => (ih (m0 + 1) (by omega)).1 (fun m' c' q1 q2 q3 => q m' c' (by omega) q2 q3), fun ⟨m', c', q1, q2, q3, q4⟩ => (ih (m0 + 1) (by omega)).2 ⟨m', c', ?_, q2, q3, q4⟩⟩
      by_cases r : m' = m0
      · rw [r] at q4; exact absurd (c c' (Nat.zero_le _) q3) q4
      · omega
    · have hex : ∃ c, 0 ≤ c ∧ c < 4 ∧ gv D f a m0 c ≠ 0 := by
        refine Classical.byContradiction fun q => c (fun c' q1 q2 => ?_)
        exact Classical.byContradiction fun r => q ⟨c', q1, q2, r⟩
      have st : mX0_givesNothing_s2 u (nI a) (nI m0) = some (.inl (.inr ())) := by
        unfold mX0_givesNothing_s2
        rw [h.1, if_neg (nI_ge (by omega) (by omega)), show (0 : Int32) = nI 0 from rfl, g2 hex, bs]
        rfl
      refine ⟨fun q => absurd (fun c' _ q2 => q m0 c' (Nat.le_refl _) (by omega) q2) c, fun _ => lp_stop st⟩
theorem e_gn {u : KS} {D : List (Nat × Nat)} {f a : Nat} (hD : WD D) (hf : f ≤ 100) (h : DR u D f) (ha : a < 21) : ((∀ m c, m < D.length → c < 4 → gv D f a m c = 0) → mX0_givesNothing u (nI a) = some 1) ∧ ((∃ m c, m < D.length ∧ c < 4 ∧ gv D f a m c ≠ 0) → mX0_givesNothing u (nI a) = some 0) := by
  obtain ⟨g1, g2⟩ := gn2 hD hf h ha D.length 0 (by omega)
  unfold mX0_givesNothing
  rw [show (0 : Int32) = nI 0 from rfl]
  refine ⟨fun q => ?_, fun ⟨m, c, q1, q2, q3⟩ => ?_⟩
  · rw [g1 (fun m c _ h2 h3 => q m c h2 h3), bs]; rfl
  · rw [g2 ⟨m, c, Nat.zero_le _, q1, q2, q3⟩, bs]; rfl
theorem sm_0 {f : Nat → Nat} : ∀ n, sm f n = 0 ↔ ∀ k, k < n → f k = 0 := by
  intro n
  induction n with
  | zero => exact ⟨fun _ k hk => absurd hk (Nat.not_lt_zero _), fun _ => rfl⟩
  | succ n ih =>
    show sm f n + f n = 0 ↔ _
    constructor
    · intro h k hk
      by_cases c : k = n
      · rw [c]; omega
      · exact ih.mp (by omega) k (by omega)
    · intro h
      have h1 := ih.mpr (fun k hk => h k (by omega))
      have h2 := h n (by omega)
      omega
theorem sm_le {f : Nat → Nat} {b : Nat} : ∀ n, (∀ k, k < n → f k ≤ b) → sm f n ≤ n * b := by
  intro n
  induction n with
  | zero => intro _; exact Nat.zero_le _
  | succ n ih =>
    intro h
    have h1 := ih (fun k hk => h k (by omega))
    have h2 := h n (by omega)
    show sm f n + f n ≤ _
    rw [Nat.succ_mul]
    omega
