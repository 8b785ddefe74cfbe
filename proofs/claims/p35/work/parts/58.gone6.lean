/-! gone, in the model -/
def trI (l k w : Nat) : Nat → Nat
  | 0 => w
  | i + 1 => trI l k w i * (if i < k then l else 20 - l)
def suI (l n : Nat) : Nat → Nat × Nat
  | 0 => (1, 0)
  | k + 1 => ((suI l n k).1 * (n - k) / (k + 1), (suI l n k).2 + trI l k (suI l n k).1 n)
theorem tr_small : ∀ l, l < 10 → ∀ n, n < 21 → ∀ k, k < 3 → ∀ i, i < n → trI l k (suI l n k).1 (i + 1) < 1073741824 ^ 3 := by decide +kernel
theorem w_small : ∀ l, l < 10 → ∀ n, n < 21 → ∀ k, k < 3 → (suI l n k).1 < 1000 := by decide +kernel
theorem s_small : ∀ l, l < 10 → ∀ n, n < 21 → ∀ k, k < 3 → (suI l n (k + 1)).2 < 1073741824 ^ 3 := by decide +kernel
def goF (l d n : Nat) : Bool := decide ((suI l n (min (4 - d) (n + 1))).2 ≤ 20 ^ n) && (decide (20 ^ n < 1073741824 ^ 3) && decide (lowN 5 n (lowN 2 (2 * n) ((goI l d n).1, (goI l d n).2.1)) = ((20 ^ n - (suI l n (min (4 - d) (n + 1))).2) / Nat.gcd (20 ^ n - (suI l n (min (4 - d) (n + 1))).2) (20 ^ n), 20 ^ n / Nat.gcd (20 ^ n - (suI l n (min (4 - d) (n + 1))).2) (20 ^ n))))
theorem go_all : ∀ l, l < 10 → ∀ d, d < 4 → 1 ≤ d → ∀ n, n < 21 → goF l d n = true := by decide +kernel
theorem p20 : ∀ i, i < 21 → 20 ^ i < 1073741824 ^ 3 := by decide +kernel
