/-! cells of a state, written and read -/
section SETS
variable (u : KS) (k : Nat) (x : Int32) (y : Int64) (f : Nat → Int32) (h : Nat → Int64) (j : Nat)
theorem s_II : gI (sI u k x) j = if j = k then x else gI u j := rfl
theorem s_IR : gI (sR u k f) j = gI u j := rfl
theorem s_IL : gI (sL u k y) j = gI u j := rfl
theorem s_IA : gI (sA u k h) j = gI u j := rfl
theorem s_RI : gR (sI u k x) j = gR u j := rfl
theorem s_RR : gR (sR u k f) j = if j = k then f else gR u j := rfl
theorem s_RL : gR (sL u k y) j = gR u j := rfl
theorem s_RA : gR (sA u k h) j = gR u j := rfl
theorem s_LI : gL (sI u k x) j = gL u j := rfl
theorem s_LR : gL (sR u k f) j = gL u j := rfl
theorem s_LL : gL (sL u k y) j = if j = k then y else gL u j := rfl
theorem s_LA : gL (sA u k h) j = gL u j := rfl
theorem s_AI : gA (sI u k x) j = gA u j := rfl
theorem s_AR : gA (sR u k f) j = gA u j := rfl
theorem s_AL : gA (sL u k y) j = gA u j := rfl
theorem s_AA : gA (sA u k h) j = if j = k then h else gA u j := rfl
theorem s_OI : gO (sI u k x) = gO u := rfl
theorem s_OR : gO (sR u k f) = gO u := rfl
theorem s_OL : gO (sL u k y) = gO u := rfl
theorem s_OA : gO (sA u k h) = gO u := rfl
theorem u_s : upd f k x j = if j = k then x else f j := rfl
theorem u_l : vp_updL h k y j = if j = k then y else h j := rfl
theorem u_is : upd f k x k = x := if_pos rfl
theorem u_no {j : Nat} (hj : j ≠ k) : upd f k x j = f j := if_neg hj
theorem ul_is : vp_updL h k y k = y := if_pos rfl
theorem ul_no {j : Nat} (hj : j ≠ k) : vp_updL h k y j = h j := if_neg hj
end SETS
/-! numbers, where nothing wraps -/
section ZC
variable {a b : Int32}
theorem z_addc (h1 : -2147483648 ≤ a.toInt + b.toInt) (h2 : a.toInt + b.toInt < 2147483648) : (a + b).toInt = a.toInt + b.toInt := by rw [z_add]; omega
theorem z_subc (h1 : -2147483648 ≤ a.toInt - b.toInt) (h2 : a.toInt - b.toInt < 2147483648) : (a - b).toInt = a.toInt - b.toInt := by rw [z_sub]; omega
theorem z_mulc (h1 : -2147483648 ≤ a.toInt * b.toInt) (h2 : a.toInt * b.toInt < 2147483648) : (a * b).toInt = a.toInt * b.toInt := by
  rw [z_mul]
  generalize a.toInt * b.toInt = x at *
  omega
theorem z_negc (h1 : -2147483648 < a.toInt) : (-a).toInt = -a.toInt := by
  have := z_rng a
  rw [z_neg]; omega
theorem z_nN {n : Nat} (h : n < 2147483648) : (nI n).toInt = (n : Int) := z_of n h
theorem z_oN {n : Nat} (h : n < 2147483648) : (Int32.ofNat n).toInt = (n : Int) := z_of n h
theorem z_lit (n : Nat) (h : n < 2147483648) : (OfNat.ofNat n : Int32).toInt = (n : Int) := z_of n h
theorem z_nat {n : Nat} (ha : a.toInt = (n : Int)) : a = nI n := by
  have h1 := z_rng a
  rw [z_eq, z_nN (by omega), ha]
theorem z_inj (h : a.toInt = b.toInt) : a = b := Int32.toInt_inj.mp h
theorem z_cmpgt (a b : Int64) : 0 < lg_cmp a b ↔ b < a := by
  unfold lg_cmp
  by_cases h : a > b
  · rw [if_pos h]; exact ⟨fun _ => h, fun _ => by decide⟩
  · rw [if_neg h]
    by_cases h2 : a = b
    · rw [if_pos h2]; exact ⟨fun q => absurd q (by decide), fun q => absurd q h⟩
    · rw [if_neg h2]; exact ⟨fun q => absurd q (by decide), fun q => absurd q h⟩
theorem i_inb (a : Int32) (n : Nat) : inb a n ↔ (0 ≤ a.toInt ∧ a.toInt < (n : Int)) := by
  have e0 : (0 : Int32).toInt = 0 := rfl
  unfold inb
  rw [z_lt, z_cl, e0]
  omega
theorem i_inb' {a : Int32} {n : Nat} (h1 : 0 ≤ a.toInt) (h2 : a.toInt < (n : Int)) : inb a n := (i_inb a n).mpr ⟨h1, h2⟩
theorem i_k {k n : Nat} (hk : k < n) (hn : n < 2147483648) : inb (nI k) n := nI_in hk hn
theorem i_cl {k : Nat} (h : k < 2147483648) : (nI k).toNatClampNeg = k := nI_clamp h
theorem i_s (k : Nat) : nI k + 1 = nI (k + 1) := nI_1 k
end ZC
/-! the small ones -/
theorem e_at {n : Nat} (hn : n < 2147483648) (f : Nat → Int32) (a : Int32) : mX5_at n f a = some (if 0 ≤ a.toInt ∧ a.toInt < (n : Int) then f a.toInt.toNat else 0) := by
  have e0 : (0 : Int32).toInt = 0 := rfl
  have en : (Int32.ofNat n).toInt = (n : Int) := z_oN hn
  unfold mX5_at
  by_cases h1 : a < 0
  · rw [if_pos h1, if_neg (by rw [z_lt, e0] at h1; omega)]
  · rw [if_neg h1]
    by_cases h2 : Int32.ofNat n ≤ a
    · rw [if_pos h2, if_neg (by rw [z_le, en] at h2; omega)]
    · rw [if_neg h2]
      rw [z_lt, e0] at h1
      rw [z_le, en] at h2
      rw [gd_t (i_inb' (by omega) (by omega)), if_pos ⟨by omega, by omega⟩, z_cl]
theorem e_set {n : Nat} (hn : n < 2147483648) (f : Nat → Int32) (a x : Int32) : mX5_set n f a x = some (if 0 ≤ a.toInt ∧ a.toInt < (n : Int) then upd f a.toInt.toNat x else f) := by
  have e0 : (0 : Int32).toInt = 0 := rfl
  have en : (Int32.ofNat n).toInt = (n : Int) := z_oN hn
  unfold mX5_set
  by_cases h1 : a < 0
  · rw [if_pos h1, if_neg (by rw [z_lt, e0] at h1; omega)]
  · rw [if_neg h1]
    by_cases h2 : Int32.ofNat n ≤ a
    · rw [if_pos h2, if_neg (by rw [z_le, en] at h2; omega)]
    · rw [if_neg h2]
      rw [z_lt, e0] at h1
      rw [z_le, en] at h2
      rw [gd_t (i_inb' (by omega) (by omega)), if_pos ⟨by omega, by omega⟩, z_cl]
theorem e_at_ {n : Nat} (hn : n < 2147483648) (f : Nat → Int64) (a : Int32) : mX5_at_ n f a = some (if 0 ≤ a.toInt ∧ a.toInt < (n : Int) then f a.toInt.toNat else 0) := by
  have e0 : (0 : Int32).toInt = 0 := rfl
  have en : (Int32.ofNat n).toInt = (n : Int) := z_oN hn
  unfold mX5_at_
  by_cases h1 : a < 0
  · rw [if_pos h1, if_neg (by rw [z_lt, e0] at h1; omega)]
  · rw [if_neg h1]
    by_cases h2 : Int32.ofNat n ≤ a
    · rw [if_pos h2, if_neg (by rw [z_le, en] at h2; omega)]
    · rw [if_neg h2]
      rw [z_lt, e0] at h1
      rw [z_le, en] at h2
      rw [gd_t (i_inb' (by omega) (by omega)), if_pos ⟨by omega, by omega⟩, z_cl]
theorem e_set_ {n : Nat} (hn : n < 2147483648) (f : Nat → Int64) (a : Int32) (x : Int64) : mX5_set_ n f a x = some (if 0 ≤ a.toInt ∧ a.toInt < (n : Int) then vp_updL f a.toInt.toNat x else f) := by
  have e0 : (0 : Int32).toInt = 0 := rfl
  have en : (Int32.ofNat n).toInt = (n : Int) := z_oN hn
  unfold mX5_set_
  by_cases h1 : a < 0
  · rw [if_pos h1, if_neg (by rw [z_lt, e0] at h1; omega)]
  · rw [if_neg h1]
    by_cases h2 : Int32.ofNat n ≤ a
    · rw [if_pos h2, if_neg (by rw [z_le, en] at h2; omega)]
    · rw [if_neg h2]
      rw [z_lt, e0] at h1
      rw [z_le, en] at h2
      rw [gd_t (i_inb' (by omega) (by omega)), if_pos ⟨by omega, by omega⟩, z_cl]
theorem e_atN {n k : Nat} (hn : n < 2147483648) (f : Nat → Int32) (hk : k < n) : mX5_at n f (nI k) = some (f k) := by
  rw [e_at hn, z_nN (by omega), if_pos ⟨by omega, by omega⟩]; rfl
theorem e_setN {n k : Nat} (hn : n < 2147483648) (f : Nat → Int32) (x : Int32) (hk : k < n) : mX5_set n f (nI k) x = some (upd f k x) := by
  rw [e_set hn, z_nN (by omega), if_pos ⟨by omega, by omega⟩]; rfl
theorem e_atN_ {n k : Nat} (hn : n < 2147483648) (f : Nat → Int64) (hk : k < n) : mX5_at_ n f (nI k) = some (f k) := by
  rw [e_at_ hn, z_nN (by omega), if_pos ⟨by omega, by omega⟩]; rfl
theorem e_setN_ {n k : Nat} (hn : n < 2147483648) (f : Nat → Int64) (x : Int64) (hk : k < n) : mX5_set_ n f (nI k) x = some (vp_updL f k x) := by
  rw [e_set_ hn, z_nN (by omega), if_pos ⟨by omega, by omega⟩]; rfl
/-! what is refused -/
def b5 (u : KS) (j : Nat) : KS := sR u 0 (upd (gR u 0) j (gR u 0 j + 1))
def b6 (v : KS) (j : Nat) : KS := sR v 3 (upd (gR v 3) j (gR v 3 j + 1))
theorem e_rf5 (u : KS) {k : Int32} (x : Int32) {j : Nat} (h0 : ¬ k < 0) (h1 : ¬ Int32.ofNat 3 ≤ k) (h2 : inb k 3) (hj : k.toNatClampNeg = j) : mX5_refuse u k x = some (x, b5 u j) := by
  subst hj
  unfold mX5_refuse mX5_at mX5_set
  simp only [if_neg h0, if_neg h1, gd_t h2, Option.bind_some]
  rfl
theorem e_bad5 (u : KS) : mX5_bad u = some (-2, b5 u 0) := by
  unfold mX5_bad; rw [e_rf5 u (-2) (j := 0) (by decide) (by decide) (by decide) (by decide)]; rfl
theorem e_no5 (u : KS) : mX5_no u = some (-3, b5 u 1) := by
  unfold mX5_no; rw [e_rf5 u (-3) (j := 1) (by decide) (by decide) (by decide) (by decide)]; rfl
theorem e_full5 (u : KS) : mX5_full u = some (-4, b5 u 2) := by
  unfold mX5_full; rw [e_rf5 u (-4) (j := 2) (by decide) (by decide) (by decide) (by decide)]; rfl
theorem bs {α β : Type} (x : α) (f : α → Option β) : (some x).bind f = f x := rfl
