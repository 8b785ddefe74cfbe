/-! lowest terms in the model -/
def FF (v v' : KS) : Prop := (∀ k, gI v' k = gI v k) ∧ (∀ k, k ≠ 4 ∧ k ≠ 5 → gR v' k = gR v k) ∧ gL v' = gL v ∧ gA v' = gA v ∧ gO v' = gO v
theorem FF.rf (v : KS) : FF v v := ⟨fun _ => rfl, fun _ _ => rfl, rfl, rfl, rfl⟩
theorem FF.tr {u v w : KS} (h : FF u v) (g : FF v w) : FF u w := ⟨fun k => (g.1 k).trans (h.1 k), fun k hk => (g.2.1 k hk).trans (h.2.1 k hk), g.2.2.1.trans h.2.2.1, g.2.2.2.1.trans h.2.2.2.1, g.2.2.2.2.trans h.2.2.2.2⟩
theorem LF.ff {r : Nat} {v v' : KS} (h : LF r v v') : FF v v' := ⟨h.1, h.2.1, h.2.2.2.2.1, h.2.2.2.2.2.1, h.2.2.2.2.2.2⟩
theorem LG.ff {r : Nat} {v v' : KS} (h : LG r v v') : FF v v' := ⟨h.1, h.2.1, h.2.2.2.2.1, h.2.2.2.2.2.1, h.2.2.2.2.2.2⟩
theorem RH.w0 {v : KS} {r x : Nat} (h : RH v r x) : (gR v 5 r ≤ 0 ↔ x = 0) ∧ (gR v 5 r = 0 ↔ x = 0) := by
  obtain ⟨h1, h2, w, h3, h4, h5⟩ := h
  have hz := h5.z
  rw [h3]
  constructor
  · rw [show (0 : Int32) = nI 0 from rfl, nI_leI (by omega) (by decide)]
    omega
  · rw [show (0 : Int32) = nI 0 from rfl, nI_eq (by omega) (by decide)]
    omega
theorem two_cop {y : Nat} (h : y % 2 = 1) : Nat.Coprime 2 y := by
  show Nat.gcd 2 y = 1
  rw [Nat.gcd_rec, h]
  rfl
theorem gcd_halfL {x y : Nat} (hx : x % 2 = 0) (hy : y % 2 = 1) : Nat.gcd (x / 2) y = Nat.gcd x y := by
  have e : x = 2 * (x / 2) := by omega
  have h := Nat.Coprime.gcd_mul_left_cancel (x / 2) (two_cop hy)
  rw [← e] at h
  exact h.symm
theorem gcd_halfR {x y : Nat} (hy : y % 2 = 0) (hx : x % 2 = 1) : Nat.gcd x (y / 2) = Nat.gcd x y := by
  rw [Nat.gcd_comm x, Nat.gcd_comm x]
  exact gcd_halfL hy hx
def R4 (v : KS) (a c x y : Nat) : Prop := RH v 0 a ∧ RH v 1 c ∧ RH v 2 x ∧ RH v 3 y
def TF (v v' : KS) : Prop := (∀ k, k ≠ 0 → gI v' k = gI v k) ∧ (∀ k, k ≠ 4 ∧ k ≠ 5 → gR v' k = gR v k) ∧ gL v' = gL v ∧ gA v' = gA v ∧ gO v' = gO v
theorem cmp_ge (a : Nat) (ha : a < 9223372036854775808) : 0 ≤ lg_cmp (lN a) 0 := by
  rw [← Int32.not_lt, z_cmplt, zl_lt, zl_nN ha, show (0 : Int64).toInt = 0 from rfl]
  omega
/-! the class's share: Euclid's steps -/
theorem l_div {a b : Nat} (ha : a < 9223372036854775808) (hb : b < 9223372036854775808) : lN a / lN b = lN (a / b) := by
  refine zl_inj ?_
  have hle : a / b ≤ a := Nat.div_le_self a b
  rw [Int64.toInt_div, zl_bm, zl_nN ha, zl_nN hb, zl_nN (by omega), ← Int.ofNat_tdiv]
  generalize a / b = q at hle
  omega
theorem l_rem {a b : Nat} (ha : a < 9223372036854775808) (hb : b < 9223372036854775808) : lN a - lN a / lN b * lN b = lN (a % b) := by
  have h1 := Nat.mod_add_div a b
  rw [l_div ha hb, lN_mul, lN_sub (by rw [Nat.mul_comm]; omega)]
  congr 1
  rw [Nat.mul_comm (a / b)]
  omega
def fbp : Nat → Nat × Nat
  | 0 => (1, 1)
  | n + 1 => ((fbp n).2, (fbp n).1 + (fbp n).2)
def euF : Nat → Nat → Nat → Prop
  | 0, _, b => b = 0
  | n + 1, a, b => b = 0 ∨ euF n b (a % b)
theorem euF_not : ∀ (n a b : Nat), b ≤ a → ¬ euF n a b → (fbp n).1 ≤ b ∧ (fbp n).2 ≤ a := by
  intro n
  induction n with
  | zero =>
    intro a b hle h
    have h : ¬ b = 0 := h
    exact ⟨show 1 ≤ b by omega, show 1 ≤ a by omega⟩
  | succ n ih =>
    intro a b hle h
    have h1 : ¬ b = 0 := fun z => h (Or.inl z)
    have h2 : ¬ euF n b (a % b) := fun z => h (Or.inr z)
    have hm := Nat.mod_lt a (show b > 0 by omega)
    obtain ⟨q1, q2⟩ := ih b (a % b) (Nat.le_of_lt hm) h2
    refine ⟨q2, ?_⟩
    show (fbp n).1 + (fbp n).2 ≤ a
    have h3 := Nat.mod_add_div a b
    have h4 : b ≤ b * (a / b) := Nat.le_mul_of_pos_right b (Nat.div_pos hle (by omega))
    omega
theorem euF_99 : 9223372036854775808 < (fbp 98).1 := by decide +kernel
theorem euF_ok {a b : Nat} (ha : a < 9223372036854775808) (hb : b < 9223372036854775808) : euF 99 a b := by
  by_cases h0 : b = 0
  · exact Or.inl h0
  · refine Or.inr (Classical.byContradiction (fun z => ?_))
    have hm := Nat.mod_lt a (show b > 0 by omega)
    have := euF_not 98 b (a % b) (Nat.le_of_lt hm) z
    have := euF_99
    omega
theorem e_comL : ∀ (n a b i : Nat), i + n ≤ 100 → a < 9223372036854775808 → b < 9223372036854775808 → euF n a b → lpF mX1_commonOf_s9 (lN a, lN b, nI i) = some (lN (Nat.gcd a b)) := by
  have stop : ∀ a i : Nat, i ≤ 100 → mX1_commonOf_s9 (lN a, lN 0, nI i) = some (.inl (lN a)) := by
    intro a i hi
    unfold mX1_commonOf_s9
    dsimp only
    by_cases c : 100 ≤ i
    · rw [if_pos (show (100 : Int32) ≤ nI i from nI_le (a := 100) c (by omega))]
    · rw [if_neg (show ¬ (100 : Int32) ≤ nI i from nI_ge (b := 100) (by omega) (by decide)), if_pos ((lN_0 (by decide)).mpr rfl)]
  intro n
  induction n with
  | zero =>
    intro a b i hi ha hb h
    have h : b = 0 := h
    subst h
    rw [Nat.gcd_zero_right]
    exact lp_stop (stop a i (by omega))
  | succ n ih =>
    intro a b i hi ha hb h
    by_cases h0 : b = 0
    · subst h0
      rw [Nat.gcd_zero_right]
      exact lp_stop (stop a i (by omega))
    · have h1 : euF n b (a % b) := h.resolve_left h0
      have hm := Nat.mod_lt a (show b > 0 by omega)
      have hnz : ¬ lN b = (0 : Int64) := fun z => h0 (lN_inj hb (by decide) z)
      have st : mX1_commonOf_s9 (lN a, lN b, nI i) = some (.inr (lN b, lN (a % b), nI (i + 1))) := by
        unfold mX1_commonOf_s9
        dsimp only
        rw [if_neg (show ¬ (100 : Int32) ≤ nI i from nI_ge (b := 100) (by omega) (by decide)), if_neg (fun z => h0 ((lN_0 hb).mp z)), gd_t hnz, l_rem ha hb, i_s]
      rw [lp_go st, ih b (a % b) (i + 1) (by omega) hb (by omega) h1, Nat.gcd_comm a b, Nat.gcd_rec b a, Nat.gcd_comm]
theorem e_write {f : Nat → Int64} {x : Nat} (hx : x < 4611686018427387904) : ∃ g, mX1_write 3 f (lN x) = some g ∧ ∀ k, k < 3 → g k = lN (lb x k) := by
  have e := lp_fd0 (S := mX1_write_s2 3 (lN x)) (fun k (y : Nat → Int64) => (nI k, y)) (fun k y => vp_updL y (0 + k) (lN (lb x k))) (fun y => y) 3 f
    (fun k y hk => by
      unfold mX1_write_s2
      dsimp only
      rw [if_neg (show ¬ Int32.ofNat 3 ≤ nI k from nI_ge hk (by decide)), gd_t (i_k hk (by decide)), i_cl (by omega), sh_k hx hk, i_s, Nat.zero_add])
    (fun y => by
      unfold mX1_write_s2
      dsimp only
      rw [if_pos (by decide)])
  refine ⟨_, by
    unfold mX1_write
    exact (congrArg (fun o => Option.bind o fun e => some e) e).trans rfl, fun k hk => ?_⟩
  rw [fd_upL 0 (fun k => lN (lb x k)), if_pos (by omega)]
  rfl
theorem e_setShare {u : KS} {p q : Nat} (hp : p < 4611686018427387904) (hq : 0 < q ∧ q < 4611686018427387904) : ∃ A C, mX1_setShare u (lN p) (lN q) = some (sA (sA u 2 A) 3 C) ∧ ∀ k, k < 3 → A k = lN (lb (p / Nat.gcd p q) k) ∧ C k = lN (lb (q / Nat.gcd p q) k) := by
  have hg : 0 < Nat.gcd p q := Nat.gcd_pos_of_pos_right _ hq.1
  have hgl : Nat.gcd p q ≤ q := Nat.gcd_le_right p hq.1
  have hc : mX1_commonOf (lN q) (lN p) = some (lN (Nat.gcd p q)) := by
    have e := e_comL 99 q p 0 (by decide) (by omega) (by omega) (euF_ok (by omega) (by omega))
    rw [Nat.gcd_comm q p] at e
    unfold mX1_commonOf
    exact (congrArg (fun o => Option.bind o fun e => some e) e).trans rfl
  have d1 : p / Nat.gcd p q ≤ p := Nat.div_le_self _ _
  have d2 : q / Nat.gcd p q ≤ q := Nat.div_le_self _ _
  obtain ⟨A, a1, a2⟩ := e_write (f := gA u 2) (x := p / Nat.gcd p q) (by omega)
  obtain ⟨C, b1, b2⟩ := e_write (f := gA u 3) (x := q / Nat.gcd p q) (by omega)
  have hnz : ¬ lN (Nat.gcd p q) = (0 : Int64) := fun z => by
    have := lN_inj (a := Nat.gcd p q) (b := 0) (by omega) (by decide) z
    omega
  refine ⟨A, C, ?_, fun k hk => ⟨a2 k hk, b2 k hk⟩⟩
  unfold mX1_setShare
  rw [hc, bs, if_neg (fun z => by have := (lN_le0 (by omega)).mp z; omega), gd_t hnz, l_div (by omega) (by omega), a1, bs, gd_t hnz, l_div (by omega) (by omega), b1, bs]
theorem FR_of {u v : KS} {x y : Nat} (h0 : gI v 0 = 0) (ha : ∀ k, k < 3 → gA u 2 k = lN (lb x k) ∧ gA u 3 k = lN (lb y k)) (hx : RH v 0 x) (hy : RH v 1 y) : FR u v := by
  obtain ⟨x1, x2, w, x3, x4, x5⟩ := hx
  obtain ⟨y1, y2, w', y3, y4, y5⟩ := hy
  refine ⟨h0, x, y, ⟨x1, y1⟩, fun k hk => ⟨(ha k hk).1, (ha k hk).2, ?_, y2 k (by omega)⟩, ?_, ?_⟩
  · have := x2 k (by omega)
    rw [Nat.mul_zero, Nat.zero_add] at this
    exact this
  · rw [x3, IsW_lc x5 x1]
  · rw [y3, IsW_lc y5 y1]
