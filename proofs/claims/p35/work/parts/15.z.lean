/-! numbers: toInt of what Int32 and Int64 work out -/
section ZED
theorem z_bm (x : Int) : x.bmod (2 ^ 32) = (x + 2147483648) % 4294967296 - 2147483648 := by
  have h : ((2 ^ 32 : Nat) : Int) = 4294967296 := rfl
  rw [Int.bmod_def, h]
  split <;> omega
theorem zl_bm (x : Int) : x.bmod (2 ^ 64) = (x + 9223372036854775808) % 18446744073709551616 - 9223372036854775808 := by
  have h : ((2 ^ 64 : Nat) : Int) = 18446744073709551616 := rfl
  rw [Int.bmod_def, h]
  split <;> omega
theorem z_lt (a b : Int32) : a < b ↔ a.toInt < b.toInt := Int32.lt_iff_toInt_lt
theorem z_le (a b : Int32) : a ≤ b ↔ a.toInt ≤ b.toInt := Int32.le_iff_toInt_le
theorem z_gt (a b : Int32) : a > b ↔ b.toInt < a.toInt := Int32.lt_iff_toInt_lt
theorem z_ge (a b : Int32) : a ≥ b ↔ b.toInt ≤ a.toInt := Int32.le_iff_toInt_le
theorem z_eq (a b : Int32) : a = b ↔ a.toInt = b.toInt := Int32.toInt_inj.symm
theorem z_add (a b : Int32) : (a + b).toInt = (a.toInt + b.toInt + 2147483648) % 4294967296 - 2147483648 := by rw [Int32.toInt_add]; exact z_bm _
theorem z_sub (a b : Int32) : (a - b).toInt = (a.toInt - b.toInt + 2147483648) % 4294967296 - 2147483648 := by rw [Int32.toInt_sub]; exact z_bm _
theorem z_mul (a b : Int32) : (a * b).toInt = (a.toInt * b.toInt + 2147483648) % 4294967296 - 2147483648 := by rw [Int32.toInt_mul]; exact z_bm _
theorem z_neg (a : Int32) : (-a).toInt = (-a.toInt + 2147483648) % 4294967296 - 2147483648 := by rw [Int32.toInt_neg]; exact z_bm _
theorem z_ofNat (n : Nat) : (Int32.ofNat n).toInt = ((n : Int) + 2147483648) % 4294967296 - 2147483648 := by rw [Int32.toInt_ofNat']; exact z_bm _
theorem z_nI (n : Nat) : (nI n).toInt = ((n : Int) + 2147483648) % 4294967296 - 2147483648 := z_ofNat n
theorem z_cl (a : Int32) : a.toNatClampNeg = a.toInt.toNat := rfl
theorem z_i2l (a : Int32) : a.toInt64.toInt = a.toInt := Int32.toInt_toInt64 a
theorem zl_lt (a b : Int64) : a < b ↔ a.toInt < b.toInt := Int64.lt_iff_toInt_lt
theorem zl_le (a b : Int64) : a ≤ b ↔ a.toInt ≤ b.toInt := Int64.le_iff_toInt_le
theorem zl_gt (a b : Int64) : a > b ↔ b.toInt < a.toInt := Int64.lt_iff_toInt_lt
theorem zl_ge (a b : Int64) : a ≥ b ↔ b.toInt ≤ a.toInt := Int64.le_iff_toInt_le
theorem zl_eq (a b : Int64) : a = b ↔ a.toInt = b.toInt := Int64.toInt_inj.symm
theorem zl_add (a b : Int64) : (a + b).toInt = (a.toInt + b.toInt + 9223372036854775808) % 18446744073709551616 - 9223372036854775808 := by rw [Int64.toInt_add]; exact zl_bm _
theorem zl_sub (a b : Int64) : (a - b).toInt = (a.toInt - b.toInt + 9223372036854775808) % 18446744073709551616 - 9223372036854775808 := by rw [Int64.toInt_sub]; exact zl_bm _
theorem zl_mul (a b : Int64) : (a * b).toInt = (a.toInt * b.toInt + 9223372036854775808) % 18446744073709551616 - 9223372036854775808 := by rw [Int64.toInt_mul]; exact zl_bm _
theorem zl_neg (a : Int64) : (-a).toInt = (-a.toInt + 9223372036854775808) % 18446744073709551616 - 9223372036854775808 := by rw [Int64.toInt_neg]; exact zl_bm _
theorem zl_ofNat (n : Nat) : (Int64.ofNat n).toInt = ((n : Int) + 9223372036854775808) % 18446744073709551616 - 9223372036854775808 := by rw [Int64.toInt_ofNat']; exact zl_bm _
theorem zl_lN (n : Nat) : (lN n).toInt = ((n : Int) + 9223372036854775808) % 18446744073709551616 - 9223372036854775808 := zl_ofNat n
theorem zl_l2i (a : Int64) : a.toInt32.toInt = (a.toInt + 2147483648) % 4294967296 - 2147483648 := by rw [Int64.toInt_toInt32]; exact z_bm _
theorem z_rng (x : Int32) : -2147483648 ≤ x.toInt ∧ x.toInt < 2147483648 := ⟨Int32.le_toInt x, Int32.toInt_lt x⟩
theorem zl_rng (x : Int64) : -9223372036854775808 ≤ x.toInt ∧ x.toInt < 9223372036854775808 := ⟨Int64.le_toInt x, Int64.toInt_lt x⟩
theorem z_of (n : Nat) (hn : n < 2147483648) : (nI n).toInt = n := by rw [z_nI]; omega
theorem z_exN {a : Int32} (h : 0 ≤ a.toInt) : ∃ n : Nat, n < 2147483648 ∧ a = nI n := by
  refine ⟨a.toInt.toNat, ?_, ?_⟩
  · have := z_rng a; omega
  · have := z_rng a; rw [z_eq, z_nI]; omega
theorem z_cmp0 (a b : Int64) : lg_cmp a b = 0 ↔ a = b := by
  unfold lg_cmp
  by_cases h : a > b
  · rw [if_pos h]; rw [zl_gt] at h; rw [zl_eq]; constructor
    · intro h1; exact absurd h1 (by decide)
    · intro h1; omega
  · rw [if_neg h]
    by_cases h2 : a = b
    · rw [if_pos h2]; exact ⟨fun _ => h2, fun _ => rfl⟩
    · rw [if_neg h2]; exact ⟨fun q => absurd q (by decide), fun q => absurd q h2⟩
theorem z_cmple (a b : Int64) : lg_cmp a b ≤ 0 ↔ a ≤ b := by
  unfold lg_cmp
  by_cases h : a > b
  · rw [if_pos h]; rw [zl_gt] at h; rw [zl_le]; constructor
    · intro h1; exact absurd h1 (by decide)
    · intro h1; omega
  · rw [if_neg h]
    rw [zl_gt] at h
    by_cases h2 : a = b
    · rw [if_pos h2, h2, zl_le]; exact ⟨fun _ => by omega, fun _ => by decide⟩
    · rw [if_neg h2, zl_le]; exact ⟨fun _ => by omega, fun _ => by decide⟩
theorem z_cmplt (a b : Int64) : lg_cmp a b < 0 ↔ a < b := by
  unfold lg_cmp
  by_cases h : a > b
  · rw [if_pos h]; rw [zl_gt] at h; rw [zl_lt]; constructor
    · intro h1; exact absurd h1 (by decide)
    · intro h1; omega
  · rw [if_neg h]
    rw [zl_gt] at h
    by_cases h2 : a = b
    · rw [if_pos h2, h2, zl_lt]; exact ⟨fun q => absurd q (by decide), fun _ => by omega⟩
    · rw [if_neg h2, zl_lt]; rw [zl_eq] at h2; exact ⟨fun _ => by omega, fun _ => by decide⟩
end ZED
/-! what a mirror answers -/
section OKS
variable {α β σ ε τ : Type}
def Ok (o : Option α) (Q : α → Prop) : Prop := ∃ x, o = some x ∧ Q x
theorem ok_ret {x : α} {Q : α → Prop} (h : Q x) : Ok (some x) Q := ⟨x, rfl, h⟩
theorem ok_mono {o : Option α} {P Q : α → Prop} (h : Ok o P) (hq : ∀ x, P x → Q x) : Ok o Q := by
  obtain ⟨x, e, p⟩ := h
  exact ⟨x, e, hq x p⟩
theorem ok_bind {o : Option α} {k : α → Option β} {P : α → Prop} {Q : β → Prop} (h : Ok o P) (hk : ∀ x, P x → Ok (k x) Q) : Ok (o.bind k) Q := by
  obtain ⟨x, e, p⟩ := h
  rw [e]
  exact hk x p
theorem ok_bindE {o : Option α} {k : α → Option β} {x : α} {Q : β → Prop} (h : o = some x) (hk : Ok (k x) Q) : Ok (o.bind k) Q := by
  rw [h]
  exact hk
theorem ok_gd {c : Prop} {i : Decidable c} {a : Option α} {Q : α → Prop} (hc : c) (h : Ok a Q) : Ok (@gd α c i a) Q := by
  unfold gd
  rw [if_pos hc]
  exact h
theorem gd_t {c : Prop} {i : Decidable c} {a : Option α} (hc : c) : @gd α c i a = a := by
  unfold gd
  rw [if_pos hc]
theorem ok_ite {c : Prop} {i : Decidable c} {a b : Option α} {Q : α → Prop} (h1 : c → Ok a Q) (h2 : ¬ c → Ok b Q) : Ok (@ite (Option α) c i a b) Q := by
  by_cases h : c
  · rw [if_pos h]; exact h1 h
  · rw [if_neg h]; exact h2 h
theorem lp_stop {S : σ → Option (ε ⊕ σ)} {s : σ} {e : ε} (h : S s = some (.inl e)) : lpF S s = some e := by
  refine lpF_of (n := 1) ?_
  show (S s).bind (lpK (lpO S 0)) = some e
  rw [h]
  rfl
theorem lp_go {S : σ → Option (ε ⊕ σ)} {s s' : σ} (h : S s = some (.inr s')) : lpF S s = lpF S s' := by
  have key : ∀ e, lpF S s = some e ↔ lpF S s' = some e := by
    intro e
    constructor
    · intro q
      obtain ⟨n, hn⟩ := lpF_ex q
      cases n with
      | zero => exact (lpO_z hn).elim
      | succ n =>
        obtain ⟨x, h1, h2⟩ := lpO_s hn
        rw [h] at h1
        cases h1
        exact lpF_of h2
    · intro q
      obtain ⟨n, hn⟩ := lpF_ex q
      refine lpF_of (n := n + 1) ?_
      show (S s).bind (lpK (lpO S n)) = some e
      rw [h]
      exact hn
  cases q : lpF S s' with
  | none =>
    cases q2 : lpF S s with
    | none => rfl
    | some e => rw [(key e).mp q2] at q; cases q
  | some e => exact (key e).mpr q
/-- a loop with a measure -/
theorem ok_lp {S : σ → Option (ε ⊕ σ)} {Q : ε → Prop} (I : σ → Prop) (mu : σ → Nat) {s : σ} (h0 : I s) (step : ∀ s, I s → Ok (S s) (fun y => (∃ e, y = .inl e ∧ Q e) ∨ (∃ s', y = .inr s' ∧ I s' ∧ mu s' < mu s))) : Ok (lpF S s) Q := by
  have key : ∀ n s, mu s < n → I s → Ok (lpF S s) Q := by
    intro n
    induction n with
    | zero => intro s h; exact absurd h (Nat.not_lt_zero _)
    | succ n ih =>
      intro s h hi
      obtain ⟨y, e1, hy⟩ := step s hi
      rcases hy with ⟨e, rfl, hq⟩ | ⟨s', rfl, hi', hm⟩
      · exact ⟨e, lp_stop e1, hq⟩
      · rw [lp_go e1]
        exact ih s' (by omega) hi'
  exact key _ s (Nat.lt_succ_self _) h0
/-- a loop with a counter -/
theorem ok_for {S : σ → Option (ε ⊕ σ)} {Q : ε → Prop} (f : Nat → τ → σ) (n : Nat) (I : Nat → τ → Prop) {k0 : Nat} {x0 : τ} (hk : k0 ≤ n) (h0 : I k0 x0)
    (step : ∀ k x, k0 ≤ k → k < n → I k x → Ok (S (f k x)) (fun y => (∃ x', y = .inr (f (k + 1) x') ∧ I (k + 1) x') ∨ (∃ e, y = .inl e ∧ Q e)))
    (fin : ∀ x, I n x → Ok (S (f n x)) (fun y => ∃ e, y = .inl e ∧ Q e)) : Ok (lpF S (f k0 x0)) Q := by
  have key : ∀ m k x, k0 ≤ k → k + m = n → I k x → Ok (lpF S (f k x)) Q := by
    intro m
    induction m with
    | zero =>
      intro k x _ h hi
      have h : k = n := h
      subst h
      obtain ⟨y, e1, e, rfl, hq⟩ := fin x hi
      exact ⟨e, lp_stop e1, hq⟩
    | succ m ih =>
      intro k x hk0 h hi
      obtain ⟨y, e1, hy⟩ := step k x hk0 (by omega) hi
      rcases hy with ⟨x', rfl, hi'⟩ | ⟨e, rfl, hq⟩
      · rw [lp_go e1]
        exact ih (k + 1) x' (by omega) (by omega) hi'
      · exact ⟨e, lp_stop e1, hq⟩
  exact key (n - k0) k0 x0 (Nat.le_refl _) (by omega) h0
/-- a fold: what a counted loop comes to -/
def fd (g : Nat → τ → τ) : Nat → τ → τ
  | 0, x => x
  | n + 1, x => g n (fd g n x)
theorem fd_s (g : Nat → τ → τ) (n : Nat) (x : τ) : fd g (n + 1) x = g n (fd g n x) := rfl
theorem fd_congr {g g' : Nat → τ → τ} {n : Nat} {x : τ} (h : ∀ k, k < n → ∀ x, g k x = g' k x) : fd g n x = fd g' n x := by
  induction n with
  | zero => rfl
  | succ n ih =>
    rw [fd_s, fd_s, ih (fun k hk => h k (by omega)), h n (by omega)]
theorem fd_inv {g : Nat → τ → τ} {n : Nat} {x : τ} (P : Nat → τ → Prop) (h0 : P 0 x) (h : ∀ k x, k < n → P k x → P (k + 1) (g k x)) : P n (fd g n x) := by
  induction n with
  | zero => exact h0
  | succ n ih => exact h n _ (by omega) (ih (fun k x hk => h k x (by omega)))
theorem fd_two {τ' : Type} {g : Nat → τ → τ} {g' : Nat → τ' → τ'} {n : Nat} {x : τ} {x' : τ'} (P : Nat → τ → τ' → Prop) (h0 : P 0 x x') (h : ∀ k x x', k < n → P k x x' → P (k + 1) (g k x) (g' k x')) : P n (fd g n x) (fd g' n x') := by
  induction n with
  | zero => exact h0
  | succ n ih => exact h n _ _ (by omega) (ih (fun k x x' hk => h k x x' (by omega)))
theorem lp_fd {S : σ → Option (ε ⊕ σ)} (f : Nat → τ → σ) (g : Nat → τ → τ) (h : τ → ε) (n : Nat) (x0 : τ) (P : Nat → τ → Prop) (hP0 : P 0 x0) (hP : ∀ k x, k < n → P k x → P (k + 1) (g k x))
    (hs : ∀ k x, k < n → P k x → S (f k x) = some (.inr (f (k + 1) (g k x)))) (hf : ∀ x, P n x → S (f n x) = some (.inl (h x))) : lpF S (f 0 x0) = some (h (fd g n x0)) := by
  have hp : ∀ k, k ≤ n → P k (fd g k x0) := fun k hk => fd_inv P hP0 (fun j x hj => hP j x (by omega))
  have key : ∀ m k, k + m = n → lpF S (f k (fd g k x0)) = some (h (fd g n x0)) := by
    intro m
    induction m with
    | zero =>
      intro k e
      have e : k = n := e
      subst e
      exact lp_stop (hf _ (hp k (Nat.le_refl _)))
    | succ m ih =>
      intro k e
      rw [lp_go (hs k _ (by omega) (hp k (by omega)))]
      exact ih (k + 1) (by omega)
  exact key n 0 (by omega)
theorem lp_fd0 {S : σ → Option (ε ⊕ σ)} (f : Nat → τ → σ) (g : Nat → τ → τ) (h : τ → ε) (n : Nat) (x0 : τ)
    (hs : ∀ k x, k < n → S (f k x) = some (.inr (f (k + 1) (g k x)))) (hf : ∀ x, S (f n x) = some (.inl (h x))) : lpF S (f 0 x0) = some (h (fd g n x0)) :=
  lp_fd f g h n x0 (fun _ _ => True) trivial (fun _ _ _ _ => trivial) (fun k x hk _ => hs k x hk) (fun x _ => hf x)
end OKS
