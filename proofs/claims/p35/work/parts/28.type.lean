/-! type, takes -/
theorem and255 (y : Int32) : 0 ≤ (y &&& 255).toInt ∧ (y &&& 255).toInt < 256 := by
  have h1 : (y &&& 255).toBitVec = y.toBitVec &&& 255#32 := rfl
  have h2 : (y &&& 255).toBitVec.toNat ≤ 255 := by
    rw [h1, BitVec.toNat_and]
    exact Nat.and_le_right
  have h3 : (y &&& 255).toInt = (y &&& 255).toBitVec.toInt := rfl
  rw [h3, BitVec.toInt_eq_toNat_cond]
  rw [if_pos (by omega)]
  omega
def ty_b (c : Int64) (i : Int32) : Int32 := ((c >>> ((8 * i).toInt64 &&& 63)).toInt32) &&& 255
theorem ty_6 (c : Int64) (i : Int32) : ((c >>> ((8 * i).toInt64 &&& 63)) &&& 255).toInt32 = ty_b c i := by
  unfold ty_b
  rw [Int64.toInt32_and]
  rfl
def tcn (n j : Nat) : Int32 := nI n - nI (j + 1)
theorem tcn_s (n j : Nat) : tcn n j + (-1) = tcn n (j + 1) := by
  unfold tcn
  rw [show nI (j + 1 + 1) = nI (j + 1) + 1 from (i_s _).symm, Int32.sub_eq_add_neg, Int32.sub_eq_add_neg, Int32.neg_add, Int32.sub_eq_add_neg, Int32.add_assoc]
theorem tcn_lt {n j : Nat} (hn : n ≤ 8) (hj : j ≤ n) : tcn n j < 0 ↔ n ≤ j := by
  have e : (tcn n j).toInt = (n : Int) - (j + 1) := by
    unfold tcn
    rw [z_subc (by rw [z_nN (by omega), z_nN (by omega)]; omega) (by rw [z_nN (by omega), z_nN (by omega)]; omega), z_nN (by omega), z_nN (by omega)]
    omega
  rw [z_lt, e, show (0 : Int32).toInt = 0 from rfl]
  omega
def vT (a3 : Int32) : Prop := 1 ≤ a3.toInt ∧ a3.toInt ≤ 8
/-- the bytes as they come -/
theorem e_ty5 {u : KS} {L n : Nat} (hL : gI u 2 = nI L) (hn : n ≤ 8) (hLn : L + n ≤ 120) (c : Int64) : lpF (mX5_type_s40 c) (nI n - 1, u) = some (sR (sI u 2 (nI (L + n))) 1 (fd (fun j x => upd x (L + j) (ty_b c (tcn n j))) n (gR u 1))) := by
  have e := lp_fd0 (S := mX5_type_s40 c) (fun j (F : Nat → Int32) => (tcn n j, sR (sI u 2 (nI (L + j))) 1 F)) (fun j x => upd x (L + j) (ty_b c (tcn n j))) (fun F => sR (sI u 2 (nI (L + n))) 1 F) n (gR u 1)
    (fun j F hj => by
      unfold mX5_type_s40
      dsimp only
      rw [if_neg (fun q => by have := (tcn_lt hn (Nat.le_of_lt hj)).mp q; omega), show gR (sR (sI u 2 (nI (L + j))) 1 F) 1 = F from rfl, show gI (sR (sI u 2 (nI (L + j))) 1 F) 2 = nI (L + j) from rfl, e_setN (by decide) _ _ (by omega), bs, tcn_s, i_s, sI_sR, sI_sI, sR_sR]
      rfl)
    (fun F => by
      unfold mX5_type_s40
      dsimp only
      rw [if_pos ((tcn_lt hn (Nat.le_refl _)).mpr (Nat.le_refl _))])
  have e0 : sR (sI u 2 (nI (L + 0))) 1 (gR u 1) = u := by
    rw [Nat.add_zero, ← hL, sI_self, sR_self]
  rw [e0] at e
  exact e
def ty_g (c : Int64) (n L : Nat) (j : Nat) (F : Nat → Int32) : Nat → Int32 := upd (upd F (80 + (L + j)) (ty_b c (tcn n j))) 0 (nI (L + j + 1))
theorem ty_c (c : Int64) (n L : Nat) (B : Nat → Int32) : ∀ m j, fd (ty_g c n L) m B j = if j = 0 then (if m = 0 then B 0 else nI (L + m)) else if 80 + L ≤ j ∧ j < 80 + L + m then ty_b c (tcn n (j - 80 - L)) else B j := by
  intro m
  induction m with
  | zero =>
    intro j
    show B j = _
    by_cases h : j = 0
    · rw [if_pos h, if_pos rfl, h]
    · rw [if_neg h, if_neg (by omega)]
  | succ m ih =>
    intro j
    rw [fd_s]
    unfold ty_g
    rw [u_s]
    by_cases h : j = 0
    · rw [if_pos h, if_pos h, if_neg (by omega)]
      rfl
    · rw [if_neg h, if_neg h, u_s]
      by_cases h2 : j = 80 + (L + m)
      · rw [if_pos h2, if_pos (by omega), show j - 80 - L = m by omega]
      · rw [if_neg h2]
        show fd (ty_g c n L) m B j = _
        rw [ih, if_neg h]
        by_cases h3 : 80 + L ≤ j ∧ j < 80 + L + m
        · rw [if_pos h3, if_pos (by omega)]
        · rw [if_neg h3, if_neg (by omega)]
/-! takes -/
theorem i_bit (y : Int32) : y &&& 1 = 0 ∨ y &&& 1 = 1 := by
  have h2 : (y &&& 1).toBitVec.toNat ≤ 1 := by
    show (y.toBitVec &&& 1#32).toNat ≤ 1
    rw [BitVec.toNat_and]
    exact Nat.and_le_right
  have h3 : (y &&& 1).toInt = (y &&& 1).toBitVec.toInt := rfl
  rw [BitVec.toInt_eq_toNat_cond, if_pos (by omega)] at h3
  rcases (show (y &&& 1).toInt = 0 ∨ (y &&& 1).toInt = 1 by omega) with h | h
  · exact Or.inl (z_inj h)
  · exact Or.inr (z_inj h)
abbrev bt (s : Int32) (p : Nat) : Int32 := (s >>> (nI p &&& 31)) &&& 1
def cst (b : Nat → Int32) (s : Int32) (p : Nat) : Int32 := fd (fun p x => if bt s p = 1 then x + b (60 + 3 * p) else x) p 0
def wth (b : Nat → Int32) (s : Int32) (p : Nat) : Int32 := fd (fun p x => if bt s p = 1 then x + b (60 + (3 * p + 1)) * b (60 + (3 * p + 2)) else x) p 0
theorem sh_P {P : Nat} (hP : P ≤ 6) : (((1 : Int32) <<< (nI P &&& 31)) : Int32) ≤ 64 := by
  rcases (show P = 0 ∨ P = 1 ∨ P = 2 ∨ P = 3 ∨ P = 4 ∨ P = 5 ∨ P = 6 by omega) with h | h | h | h | h | h | h <;> subst h <;> decide
