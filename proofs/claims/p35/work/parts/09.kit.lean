/-! MY OWN KIT: a method's mirror is a function into Option; its contract: if the mirror answers, the method answers so -/
section OPT
variable {α β σ ε : Type}
theorem o_ip {c : Prop} {i : Decidable c} {a b : Option α} {y : α} (h : c) (hf : (@ite (Option α) c i a b) = some y) : a = some y := by rw [if_pos h] at hf; exact hf
theorem o_in {c : Prop} {i : Decidable c} {a b : Option α} {y : α} (h : ¬ c) (hf : (@ite (Option α) c i a b) = some y) : b = some y := by rw [if_neg h] at hf; exact hf
def gd (c : Prop) [Decidable c] (a : Option α) : Option α := if c then a else none
theorem gd_s {c : Prop} {i : Decidable c} {a : Option α} {y : α} (h : @gd α c i a = some y) : c ∧ a = some y := by
  unfold gd at h
  by_cases hc : c
  · rw [if_pos hc] at h; exact ⟨hc, h⟩
  · rw [if_neg hc] at h; cases h
theorem o_bs {o : Option α} {k : α → Option β} {y : β} (h : o.bind k = some y) : ∃ x, o = some x ∧ k x = some y := by
  cases o with
  | none => cases h
  | some x => exact ⟨x, rfl, h⟩
def lpK (f : σ → Option ε) : ε ⊕ σ → Option ε
  | .inl e => some e
  | .inr s => f s
def lpO (S : σ → Option (ε ⊕ σ)) : Nat → σ → Option ε
  | 0, _ => none
  | n + 1, s => (S s).bind (lpK (lpO S n))
theorem lpK_l {f : σ → Option ε} {a e : ε} (h : lpK f (.inl a) = some e) : e = a := (Option.some.inj h).symm
theorem lpK_r {f : σ → Option ε} {a : σ} {e : ε} (h : lpK f (.inr a) = some e) : f a = some e := h
theorem o_ret {x y : α} (h : some x = some y) : y = x := (Option.some.inj h).symm
def oE (f : ε → Option α) (g : σ → Option α) : ε ⊕ σ → Option α
  | .inl e => f e
  | .inr s => g s
theorem oE_l {f : ε → Option α} {g : σ → Option α} {e : ε} {y : α} (h : oE f g (.inl e) = some y) : f e = some y := h
theorem oE_r {f : ε → Option α} {g : σ → Option α} {e : σ} {y : α} (h : oE f g (.inr e) = some y) : g e = some y := h
theorem lpO_z {S : σ → Option (ε ⊕ σ)} {s : σ} {e : ε} (h : lpO S 0 s = some e) : False := by cases h
theorem lpO_s {S : σ → Option (ε ⊕ σ)} {n : Nat} {s : σ} {e : ε} (h : lpO S (n + 1) s = some e) : ∃ x, S s = some x ∧ lpK (lpO S n) x = some e := o_bs h
theorem lpO_up {S : σ → Option (ε ⊕ σ)} : ∀ (n : Nat) (s : σ) (e : ε), lpO S n s = some e → lpO S (n + 1) s = some e := by
  intro n
  induction n with
  | zero => intro s e h; cases h
  | succ n ih =>
    intro s e h
    obtain ⟨x, h1, h2⟩ := lpO_s h
    show (S s).bind (lpK (lpO S (n + 1))) = some e
    rw [h1]
    cases x with
    | inl e' => exact h2
    | inr s' => exact ih s' e h2
theorem lpO_ups {S : σ → Option (ε ⊕ σ)} {n : Nat} {s : σ} {e : ε} (h : lpO S n s = some e) (k : Nat) : lpO S (n + k) s = some e := by
  induction k with
  | zero => exact h
  | succ k ih => exact lpO_up _ _ _ ih
theorem lpO_one {S : σ → Option (ε ⊕ σ)} {n m : Nat} {s : σ} {e e' : ε} (h : lpO S n s = some e) (h' : lpO S m s = some e') : e = e' := by
  have a := lpO_ups h m
  have b := lpO_ups h' n
  rw [Nat.add_comm] at b
  rw [a] at b
  exact Option.some.inj b

noncomputable def lpF (S : σ → Option (ε ⊕ σ)) (s : σ) : Option ε := @dite (Option ε) (∃ e, ∃ n, lpO S n s = some e) (Classical.propDecidable _) (fun h => some (Classical.choose h)) (fun _ => none)
theorem lpF_ex {S : σ → Option (ε ⊕ σ)} {s : σ} {e : ε} (h : lpF S s = some e) : ∃ n, lpO S n s = some e := by
  unfold lpF at h
  split at h
  · next h1 => cases h; exact Classical.choose_spec h1
  · cases h
theorem lpF_of {S : σ → Option (ε ⊕ σ)} {s : σ} {e : ε} {n : Nat} (h : lpO S n s = some e) : lpF S s = some e := by
  unfold lpF
  have h1 : ∃ e, ∃ n, lpO S n s = some e := ⟨e, n, h⟩
  rw [dif_pos h1]
  obtain ⟨m, hm⟩ := Classical.choose_spec h1
  rw [lpO_one hm h]
end OPT
abbrev inb (i : Int32) (n : Nat) : Prop := ¬ (i < 0 ∨ n ≤ i.toNatClampNeg)
theorem k_in {i : Int32} {n : Nat} (h : inb i n) : vp_in i n := h
theorem k_nar01 {v : Int32} (h : v = 0 ∨ v = 1) : narrow .boolean (.int v) = .int v := by rcases h with h | h <;> subst h <;> rfl
theorem k_narC {v : Int32} (h : 0 ≤ v ∧ v < 256) : narrow .char (.int v) = .int v := by
  obtain ⟨j, hj, rfl⟩ := nI_of2 (M := 256) (n := 256) rfl (fun q => absurd h.1 (by exact Int32.not_le.mpr q)) (Int32.le_of_lt h.2)
  exact (pk_charN (by omega)).1
/-! a state: ints, rows of ints, longs, rows of longs, references -/
abbrev KS : Type := (Nat → Int32) × (Nat → Nat → Int32) × (Nat → Int64) × (Nat → Nat → Int64) × (Nat → Option Nat)
def gI (u : KS) (k : Nat) : Int32 := u.1 k
def gR (u : KS) (k : Nat) : Nat → Int32 := u.2.1 k
def gL (u : KS) (k : Nat) : Int64 := u.2.2.1 k
def gA (u : KS) (k : Nat) : Nat → Int64 := u.2.2.2.1 k
def gO (u : KS) : Nat → Option Nat := u.2.2.2.2
def sI (u : KS) (k : Nat) (v : Int32) : KS := (va_up u.1 k v, u.2)
def sR (u : KS) (k : Nat) (v : Nat → Int32) : KS := (u.1, va_up u.2.1 k v, u.2.2)
def sL (u : KS) (k : Nat) (v : Int64) : KS := (u.1, u.2.1, va_up u.2.2.1 k v, u.2.2.2)
def sA (u : KS) (k : Nat) (v : Nat → Int64) : KS := (u.1, u.2.1, u.2.2.1, va_up u.2.2.2.1 k v, u.2.2.2.2)
def sO (u : KS) (v : Nat → Option Nat) : KS := (u.1, u.2.1, u.2.2.1, u.2.2.2.1, v)
abbrev kII (d : Nat) (c : ClassId) (n : Nat) (f : Nat → Int32) : Nat × va_E := (d, .inl (c, n, .inl f))
abbrev kIJ (d : Nat) (c : ClassId) (n : Nat) (f : Nat → Int64) : Nat × va_E := (d, .inl (c, n, .inr (.inl f)))
theorem k_gset {ws : va_W} {k : Nat} {c c' : Nat × va_E} (h : ws[k]? = some c) : (ws.set k c')[k]? = some c' := by
  obtain ⟨hl, -⟩ := List.getElem?_eq_some_iff.mp h
  rw [List.getElem?_set_self hl]
theorem k_gother {ws : va_W} {k j : Nat} {c c' : Nat × va_E} (hn : k ≠ j) (h : ws[j]? = some c) : (ws.set k c')[j]? = some c := by
  rw [List.getElem?_set_ne hn]; exact h
theorem k_setself {ws : va_W} {k : Nat} {c : Nat × va_E} (h : ws[k]? = some c) : ws.set k c = ws := by
  apply List.ext_getElem?
  intro j
  by_cases hj : k = j
  · subst hj; rw [k_gset h, h]
  · rw [List.getElem?_set_ne hj]
def WX (q : Nat → Nat) (cy : Nat → ClassId) (u : KS) : va_W := [(q 0, .inr (5, [.ref (q 3), .ref (q 1), .ref (q 10), .ref (q 15), .ref (q 19), .ref (q 21), .ref (q 2), .int (gI u 0), .int (gI u 1)])), (q 1, .inl (cy 3, 2, .inr (.inr (.inr (.inr (gO u)))))), (q 2, .inl (cy 0, 3, .inl (gR u 0))), (q 3, .inr (3, [.ref (q 4), .int (gI u 2), .ref (q 5), .ref (q 6), .ref (q 7), .ref (q 8), .int (gI u 3), .ref (q 9), .int (gI u 4)])), (q 4, .inl (cy 0, 120, .inl (gR u 1))), (q 5, .inl (cy 0, 4, .inl (gR u 2))), (q 6, .inl (cy 0, 7, .inl (gR u 3))), (q 7, .inl (cy 0, 4, .inl (gR u 4))), (q 8, .inl (cy 0, 32, .inl (gR u 5))), (q 9, .inl (cy 0, 18, .inl (gR u 6))), (q 10, .inr (0, [.int (gI u 5), .int (gI u 6), .ref (q 11), .ref (q 12), .ref (q 13), .ref (q 14), .int (gI u 7), .int (gI u 8), .int (gI u 9)])), (q 11, .inl (cy 0, 121, .inl (gR u 7))), (q 12, .inl (cy 0, 120, .inl (gR u 8))), (q 13, .inl (cy 0, 120, .inl (gR u 9))), (q 14, .inl (cy 0, 360, .inl (gR u 10))), (q 15, .inr (2, [.long (gL u 0), .ref (q 16), .ref (q 17), .ref (q 18)])), (q 16, .inl (cy 0, 21, .inl (gR u 11))), (q 17, .inl (cy 1, 2731, .inr (.inl (gA u 0)))), (q 18, .inl (cy 0, 2731, .inl (gR u 12))), (q 19, .inr (4, [.ref (q 20), .long (gL u 1), .int (gI u 10)])), (q 20, .inl (cy 1, 5, .inr (.inl (gA u 1)))), (q 21, .inr (1, [.ref (q 22), .ref (q 23), .ref (q 24), .ref (q 25), .ref (q 26)])), (q 22, .inl (cy 1, 3, .inr (.inl (gA u 2)))), (q 23, .inl (cy 1, 3, .inr (.inl (gA u 3)))), (q 24, .inl (cy 1, 3, .inr (.inl (gA u 4)))), (q 25, .inl (cy 1, 3, .inr (.inl (gA u 5)))), (q 26, .inl (cy 1, 3, .inr (.inl (gA u 6))))]
def WXR (q : Nat → Nat) (cy : Nat → ClassId) (u : KS) : va_W := [(q 0, .inr (5, [.ref (q 3), .ref (q 1), .ref (q 10), .ref (q 15), .ref (q 19), .ref (q 21), .ref (q 2), .int (gI u 0), .int (gI u 1)])), (q 1, .inl (cy 3, 2, .inr (.inr (.inr (.inr (gO u)))))), (q 2, .inl (cy 0, 3, .inl (gR u 0))), (q 3, .inr (3, [.ref (q 4), .int (gI u 2), .ref (q 5), .ref (q 6), .ref (q 7), .ref (q 8), .int (gI u 3), .ref (q 9), .int (gI u 4)])), (q 4, .inl (cy 0, 120, .inl (gR u 1))), (q 5, .inl (cy 0, 4, .inl (gR u 2))), (q 6, .inl (cy 0, 7, .inl (gR u 3))), (q 7, .inl (cy 0, 4, .inl (gR u 4))), (q 8, .inl (cy 0, 32, .inl (gR u 5))), (q 9, .inl (cy 0, 18, .inl (gR u 6))), (q 10, .inr (0, [.int (gI u 5), .int (gI u 6), .ref (q 11), .ref (q 12), .ref (q 13), .ref (q 14), .int (gI u 7), .int (gI u 8), .int (gI u 9)])), (q 11, .inl (cy 0, 121, .inl (gR u 7))), (q 12, .inl (cy 0, 120, .inl (gR u 8))), (q 13, .inl (cy 0, 120, .inl (gR u 9))), (q 14, .inl (cy 0, 360, .inl (gR u 10))), (q 15, .inr (2, [.long (gL u 0), .ref (q 16), .ref (q 17), .ref (q 18)])), (q 16, .inl (cy 0, 21, .inl (gR u 11))), (q 17, .inl (cy 1, 2731, .inr (.inl (gA u 0)))), (q 18, .inl (cy 0, 2731, .inl (gR u 12))), (q 19, .inr (4, [.ref (q 20), .long (gL u 1), .int (gI u 10)])), (q 20, .inl (cy 1, 5, .inr (.inl (gA u 1)))), (q 21, .inr (1, [.ref (q 22), .ref (q 23), .ref (q 24), .ref (q 25), .ref (q 26)])), (q 22, .inl (cy 1, 3, .inr (.inl (gA u 2)))), (q 23, .inl (cy 1, 3, .inr (.inl (gA u 3)))), (q 24, .inl (cy 1, 3, .inr (.inl (gA u 4)))), (q 25, .inl (cy 1, 3, .inr (.inl (gA u 5)))), (q 26, .inl (cy 1, 3, .inr (.inl (gA u 6)))), (q 27, .inl (cy 0, 64, .inl (gR u 20)))]
def WKK (q : Nat → Nat) (cy : Nat → ClassId) (u : KS) : va_W := [(q 0, .inr (3, [.ref (q 1), .int (gI u 2), .ref (q 2), .ref (q 3), .ref (q 4), .ref (q 5), .int (gI u 3), .ref (q 6), .int (gI u 4)])), (q 1, .inl (cy 0, 120, .inl (gR u 1))), (q 2, .inl (cy 0, 4, .inl (gR u 2))), (q 3, .inl (cy 0, 7, .inl (gR u 3))), (q 4, .inl (cy 0, 4, .inl (gR u 4))), (q 5, .inl (cy 0, 32, .inl (gR u 5))), (q 6, .inl (cy 0, 18, .inl (gR u 6))), (q 7, .inr (3, [.ref (q 8), .int (gI u 12), .ref (q 9), .ref (q 10), .ref (q 11), .ref (q 12), .int (gI u 13), .ref (q 13), .int (gI u 14)])), (q 8, .inl (cy 0, 120, .inl (gR u 11))), (q 9, .inl (cy 0, 4, .inl (gR u 12))), (q 10, .inl (cy 0, 7, .inl (gR u 13))), (q 11, .inl (cy 0, 4, .inl (gR u 14))), (q 12, .inl (cy 0, 32, .inl (gR u 15))), (q 13, .inl (cy 0, 18, .inl (gR u 16)))]
/-! what every method may lean on: the tables' words that no list of words carries, the Strings, the statics -/
abbrev kTys (cy : Nat → ClassId) : List (ClassId × FieldType) := [(cy 0, .int), (cy 1, .long), (cy 2, .long), (cy 3, .object RX3)]
abbrev kNm : List Cond := [.methodLinkNest RX5 11 yX3_init RX5, .methodLinkNest RX5 22 yX0_init RX5, .methodLinkNest RX5 29 yX2_init RX5, .methodLinkNest RX5 36 yX4_init RX5, .methodLinkNest RX0 50 yX5_at RX5, .methodLinkNest RX0 95 yX5_set RX5, .methodLinkNest RX1 45 yX5_at_ RX5, .methodLinkNest RX1 56 yX5_set_ RX5, .methodLinkNest RX2 22 yX5_at RX5, .methodLinkNest RX2 30 yX5_set RX5, .methodLinkNest RX2 48 yX5_at_ RX5, .methodLinkNest RX2 26 yX5_set_ RX5, .methodLinkNest RX3 30 yX5_copy RX5, .methodLinkNest RX4 29 yX5_set_ RX5, .methodLinkNest RX4 43 yX5_at_ RX5]
def kIsNm (w : Cond) : Prop := ∃ a i x h, w = .methodLinkNest a i x h
theorem kNm_is : ∀ w ∈ kNm, kIsNm w := by
  intro w hw
  simp only [kNm, List.mem_cons, List.not_mem_nil, or_false] at hw
  rcases hw with h | h | h | h | h | h | h | h | h | h | h | h | h | h | h <;> exact ⟨_, _, _, _, h⟩
def kStrLen : List Nat := [5, 4, 4, 5]
def kStrByt : List (List Int32) := [[115, 116, 97, 110, 100], [105, 100, 108, 101], [112, 117, 108, 108], [99, 111, 97, 115, 116]]
def kSl (w : Nat) : Int32 := Int32.ofNat (kStrLen.getD w 0)
def kSc (w : Nat) (i : Int32) : Int32 := (kStrByt.getD w []).getD i.toNatClampNeg 0
def kLeast : Nat → Value := fun j => .int ([(0 : Int32), 1, 1, 0].getD j 0)
def kMost : Nat → Value := fun j => .int ([(100 : Int32), 40, 9, 99].getD j 0)
/-- the law's script: its length sa 11, its elements from sa 12 on -/
def scr (sa : Nat → Nat) (j : Nat) : Int32 := Int32.ofNat (sa (12 + j))
def kScr (sa : Nat → Nat) : Nat → Value := fun j => .int (scr sa j)
def kN (sa : Nat → Nat) (U : State) : Prop := (∀ w ∈ kNm, va_Nw w U) ∧ va_AO RX3 U ∧ vk_R RX0 74 "stand" (sa 0) U ∧ vk_R RX0 80 "idle" (sa 1) U ∧ vk_R RX0 82 "pull" (sa 2) U ∧ vk_R RX0 84 "coast" (sa 3) U
def kV (sa : Nat → Nat) (A : Nat → Prop) (U : State) (H : Heap) : Prop := vk_S 4 kStrLen kStrByt sa (fun i => sa (4 + i)) A U H ∧ va_Z "java/lang/String" "COMPACT_STRINGS" "Z" (.int 1) A U H ∧ va_Z RX5 "SETTING_LEAST" "[I" (.ref (sa 8)) A U H ∧ va_T .int (sa 8) 4 kLeast A U H ∧ va_Z RX5 "SETTING_MOST" "[I" (.ref (sa 9)) A U H ∧ va_T .int (sa 9) 4 kMost A U H ∧ va_Zq "jdk/internal/util/Preconditions" "SIOOBE_FORMATTER" "Ljava/util/function/BiFunction;" A U H ∧ va_T .int (sa 10) (sa 11) (kScr sa) A U H
def kE (D : va_G) (cy : Nat → ClassId) (sa : Nat → Nat) (A : Nat → Prop) (U : State) (H : Heap) : Prop := va_K D vwCl (kTys cy) U ∧ kN sa U ∧ kV sa A U H
theorem kV.kept {sa : Nat → Nat} {A : Nat → Prop} {U : State} {H H1 : Heap} (h : kV sa A U H) (hq : ∀ a : Nat, a < H.size → ¬ A a → H1[a]? = H[a]?) : kV sa A U H1 :=
  ⟨h.1.kept hq, h.2.1.kept hq, h.2.2.1.kept hq, h.2.2.2.1.kept hq, h.2.2.2.2.1.kept hq, h.2.2.2.2.2.1.kept hq, h.2.2.2.2.2.2.1.kept hq, h.2.2.2.2.2.2.2.kept hq⟩
theorem kV.narrow {sa : Nat → Nat} {A B : Nat → Prop} {U : State} {H : Heap} (h : kV sa A U H) (hq : ∀ q, B q → A q) : kV sa B U H :=
  ⟨h.1.narrow hq, h.2.1.narrow hq, h.2.2.1.narrow hq, h.2.2.2.1.narrow hq, h.2.2.2.2.1.narrow hq, h.2.2.2.2.2.1.narrow hq, h.2.2.2.2.2.2.1.narrow hq, h.2.2.2.2.2.2.2.narrow hq⟩
theorem kV.moved {sa : Nat → Nat} {A : Nat → Prop} {u U : State} {H : Heap} (hvm : u.vm.Alike U.vm) (h : kV sa A u H) : kV sa A U H :=
  ⟨h.1.moved hvm, h.2.1.moved hvm, h.2.2.1.moved hvm, h.2.2.2.1.moved hvm, h.2.2.2.2.1.moved hvm, h.2.2.2.2.2.1.moved hvm, h.2.2.2.2.2.2.1.moved hvm, h.2.2.2.2.2.2.2.moved hvm⟩
theorem kN.same {sa : Nat → Nat} {u U : State} (hv : u.vm = U.vm) (h : kN sa u) : kN sa U := by
  obtain ⟨h1, h2, h3, h4, h5, h6⟩ := h
  refine ⟨fun w hw => ?_, va_AO.moved (hv ▸ Vm.Alike.refl u.vm) h2, h3.same hv.symm, h4.same hv.symm, h5.same hv.symm, h6.same hv.symm⟩
  obtain ⟨a, i, x, y, rfl⟩ := kNm_is w hw
  exact va_Nw.same rfl hv (h1 _ hw)
theorem kN.warm {sa : Nat → Nat} {s U : State} (hW : s.WarmedH U.vm) (h : kN sa s) : kN sa U := by
  obtain ⟨h1, h2, h3, h4, h5, h6⟩ := h
  refine ⟨fun w hw => ?_, va_AO.moved hW.alike h2, h3.warm hW, h4.warm hW, h5.warm hW, h6.warm hW⟩
  obtain ⟨a, i, x, y, rfl⟩ := kNm_is w hw
  exact va_Nw.warmM hW (h1 _ hw)
theorem kE.same {D : va_G} {cy : Nat → ClassId} {sa : Nat → Nat} {A : Nat → Prop} {u U : State} {H : Heap} (hv : u.vm = U.vm) (h : kE D cy sa A u H) : kE D cy sa A U H :=
  ⟨va_K.moved (hv ▸ Vm.Alike.refl u.vm) h.1, h.2.1.same hv, h.2.2.moved (hv ▸ Vm.Alike.refl u.vm)⟩
theorem kE.call {D : va_G} {cy : Nat → ClassId} {sa : Nat → Nat} {A B : Nat → Prop} {s U : State} {H : Heap} {locs : List Loc} (h : kE D cy sa A s s.heap) (hS : va_S A s.heap H locs) (hB : ∀ q, B q → A q) (hU : U.heap = H) (hW : s.WarmedH U.vm) : kE D cy sa B U U.heap :=
  ⟨va_K.moved hW.alike h.1, h.2.1.warm hW, by rw [hU]; exact ((h.2.2.kept hS.2.1).narrow hB).moved hW.alike⟩
/-! a contract's start and its ends -/
def kP (D : va_G) (cy : Nat → ClassId) (sa : Nat → Nat) (ws : va_W) (sz : Nat) (av : List Value) : Array Value → State → Prop := va_Pc av (fun U => U.heap.size = sz ∧ va_P D vwCl ws U.heap ∧ va_D (fun _ => True) ws ∧ kE D cy sa (va_A ws sz) U U.heap)
abbrev kQi (D : va_G) (A : Nat → Prop) (r : Int32) (ws' : va_W) : Array Value → State → Outcome → State → Prop := va_Qi (fun r1 (_ : Unit) => r1 = r) (fun _ t => va_P D vwCl ws' t.heap ∧ va_D A ws') A
abbrev kQl (D : va_G) (A : Nat → Prop) (r : Int64) (ws' : va_W) : Array Value → State → Outcome → State → Prop := va_Ql (fun r1 (_ : Unit) => r1 = r) (fun _ t => va_P D vwCl ws' t.heap ∧ va_D A ws') A
abbrev kQv (D : va_G) (A : Nat → Prop) (ws' : va_W) : Array Value → State → Outcome → State → Prop := va_Qv (fun (_ : Unit) => True) (fun _ t => va_P D vwCl ws' t.heap ∧ va_D A ws') A
abbrev kMi (l : Launch) (y : MethodName) (wsY : List Cond) (rm : Room) (D : va_G) (cy : Nat → ClassId) (sa : Nat → Nat) (ws : va_W) (sz : Nat) (av : List Value) (r : Int32) (ws' : va_W) (mc ms : Nat) : Prop := Met l y wsY rm (kP D cy sa ws sz av) (kQi D (va_A ws sz) r ws') mc ms (va_A ws sz)
abbrev kMl (l : Launch) (y : MethodName) (wsY : List Cond) (rm : Room) (D : va_G) (cy : Nat → ClassId) (sa : Nat → Nat) (ws : va_W) (sz : Nat) (av : List Value) (r : Int64) (ws' : va_W) (mc ms : Nat) : Prop := Met l y wsY rm (kP D cy sa ws sz av) (kQl D (va_A ws sz) r ws') mc ms (va_A ws sz)
abbrev kMv (l : Launch) (y : MethodName) (wsY : List Cond) (rm : Room) (D : va_G) (cy : Nat → ClassId) (sa : Nat → Nat) (ws : va_W) (sz : Nat) (av : List Value) (ws' : va_W) (mc ms : Nat) : Prop := Met l y wsY rm (kP D cy sa ws sz av) (kQv D (va_A ws sz) ws') mc ms (va_A ws sz)
theorem kP.blind {D : va_G} {cy : Nat → ClassId} {sa : Nat → Nat} {ws : va_W} {sz : Nat} {av : List Value} : FrameBlind (kP D cy sa ws sz av) :=
  fun a U g mk q => by
    obtain ⟨q0, q1, qP, qD, qE⟩ := q
    exact ⟨q0, q1, qP, qD, kE.same (u := U) (U := U.calling g mk a) rfl qE⟩
/-- the start of a walk -/
theorem kM_of {l : Launch} {y : MethodName} {rm : Room} {D : va_G} {cy : Nat → ClassId} {sa : Nat → Nat} {ws : va_W} {sz : Nat} {av : List Value} {Qc : (Nat → Prop) → Array Value → State → Outcome → State → Prop} {mc ms : Nat} {cc : ByteArray} {maxL : Nat} {ret : Option FieldType} (hy : plainName y.cls = true) (hn : (lg_sl av).length ≤ maxL)
    (body : ∀ (p : Program) (e : Env) (s : State) (m : MethodId) (below : List Frame) (meth : Method) (c : Code) (A : Nat → Prop), p.tables.exec = Jvm.exec → c.code = cc → c.maxLocals = maxL → meth.sig.returnType = ret → (∀ w ∈ wsL_law, w.before av.toArray s = true) → s.vm.findClass y.cls = some m.cls → meth.locks = false → (y.name = "<init>" → meth.name = "<init>") → (∀ q : Nat, s.heap.size ≤ q → A q) → va_P D vwCl ws s.heap → va_D A ws → va_S A s.heap s.heap [] → kE D cy sa A s s.heap → s.heap.size = sz →
      ∀ ls : Array Slot, lv_has ls maxL (lv_args 0 av) → W p l e rm s m av.toArray below meth c s.heap [] 0 0 (MQ below (Qc A) av.toArray s mc ms A) (F0 m 0 ls [])) : Met l y (wsK y cc maxL ret) rm (kP D cy sa ws sz av) (Qc (va_A ws sz)) mc ms (va_A ws sz) := by
  refine Met.ofW (cc := cc) (maxL := maxL) (ret := ret) hy rfl ?_
  intro p e s m args below meth c s₁ B hml hv
  obtain ⟨rfl, hsz, hP, hD0, hE⟩ := hv
  have hts : ∀ w ∈ wsL_law, w.before av.toArray s = true := fun w h => atoms_spec (ws := wsK y cc maxL ret) B.pre w (List.mem_cons_of_mem _ h)
  have hown : s.vm.findClass y.cls = some m.cls := findClass_of_methodNamed B.named
  have hl := lv_entry av (n := maxL) hn
  rw [lg_entry_eq]
  exact body p e s m below meth c (va_A ws sz) B.exec B.bytes hml B.returns hts hown B.notSynchronized (fun h => by rw [(name_of_methodNamed B.named B.method).1]; exact h) (fun q h => Or.inr (by rw [← hsz]; exact h)) hP (hD0.self (sz := sz)) va_S.rf hE hsz _ hl
section ENDS
variable {p : Program} {l : Launch} {e : Env} {R : Room} {s : State} {m : MethodId} {args : Array Value} {below : List Frame} {meth : Method} {c : Code} {H : Heap} {locs : List Loc} {cells slots : Nat}
variable {cc : ByteArray} {pc : Nat} {ls : Array Slot} {D : va_G} {cy : Nat → ClassId} {sa : Nat → Nat} {A : Nat → Prop} {ws' : va_W} {mc ms : Nat}
theorem k_iret (hx : p.tables.exec = Jvm.exec) (hb : c.code = cc) (hr : meth.sig.returnType = some .int) (hP : va_P D vwCl ws' H) (hD : va_D A ws') (hS : va_S A s.heap H locs) {v : Int32} (hc : cells ≤ mc) (hs : slots ≤ ms) (hlocks : meth.locks = false) (hdg : decode cc pc = .ok (.ireturn, 1)) : W p l e R s m args below meth c H locs cells slots (MQ below (kQi D A v ws') args s mc ms A) (F0 m pc ls [.int v]) := by
  refine W.widen (k := mc) (n := ms) hc hs ?_
  exact W.iret (v := v) hx hb hr (fun t ht hW => ⟨⟨v, (), rfl, rfl, by rw [ht]; exact hP, hD⟩, hS.F ht⟩) hS.2.2 hdg (hlocks := hlocks)
theorem k_zret {ty : FieldType} (hx : p.tables.exec = Jvm.exec) (hb : c.code = cc) (hr : meth.sig.returnType = some ty) (hP : va_P D vwCl ws' H) (hD : va_D A ws') (hS : va_S A s.heap H locs) {v : Int32} (hn : narrow ty (.int v) = .int v) (hc : cells ≤ mc) (hs : slots ≤ ms) (hlocks : meth.locks = false) (hdg : decode cc pc = .ok (.ireturn, 1)) : W p l e R s m args below meth c H locs cells slots (MQ below (kQi D A v ws') args s mc ms A) (F0 m pc ls [.int v]) := by
  refine W.widen (k := mc) (n := ms) hc hs ?_
  exact W.zret (v := v) hx hb hr hn (fun t ht hW => ⟨⟨v, (), rfl, rfl, by rw [ht]; exact hP, hD⟩, hS.F ht⟩) hS.2.2 hdg (hlocks := hlocks)
theorem k_lret (hx : p.tables.exec = Jvm.exec) (hb : c.code = cc) (hr : meth.sig.returnType = some .long) (hP : va_P D vwCl ws' H) (hD : va_D A ws') (hS : va_S A s.heap H locs) {v : Int64} (hc : cells ≤ mc) (hs : slots ≤ ms) (hlocks : meth.locks = false) (hdg : decode cc pc = .ok (.lreturn, 1)) : W p l e R s m args below meth c H locs cells slots (MQ below (kQl D A v ws') args s mc ms A) (F0 m pc ls [.long v]) := by
  refine W.widen (k := mc) (n := ms) hc hs ?_
  exact W.lret (v := v) hx hb hr (fun t ht hW => ⟨⟨v, (), rfl, rfl, by rw [ht]; exact hP, hD⟩, hS.F ht⟩) hS.2.2 hdg (hlocks := hlocks)
theorem k_vret (hx : p.tables.exec = Jvm.exec) (hb : c.code = cc) (hr : meth.sig.returnType = none) (hP : va_P D vwCl ws' H) (hD : va_D A ws') (hS : va_S A s.heap H locs) (hc : cells ≤ mc) (hs : slots ≤ ms) (hlocks : meth.locks = false) (hdg : decode cc pc = .ok (.return_, 1)) : W p l e R s m args below meth c H locs cells slots (MQ below (kQv D A ws') args s mc ms A) (F0 m pc ls []) := by
  refine W.widen (k := mc) (n := ms) hc hs ?_
  exact W.vret hx hb hr (fun t ht hW => ⟨⟨(), rfl, trivial, by rw [ht]; exact hP, hD⟩, hS.F ht⟩) hS.2.2 hdg (hlocks := hlocks)
end ENDS
/-! calls: the callee has the caller's whole world -/
section CALLS
variable {p : Program} {l : Launch} {e : Env} {R : Room} {s : State} {m : MethodId} {args : Array Value} {below : List Frame} {meth : Method} {c : Code} {H : Heap} {locs : List Loc} {cells slots : Nat} {Q : State → Prop}
variable {cc bytes : ByteArray} {pc nL maxL n index mc ms : Nat} {ls : Array Slot} {D : va_G} {cy : Nat → ClassId} {sa : Nat → Nat} {A : Nat → Prop} {ws ws' : va_W} {y : MethodName} {wsy Ts : List Cond} {own C : String} {rm : Room} {b : Addr} {As rest st : List Value} {ret : Option FieldType}
theorem k_free (hD : va_D A ws) (hS : va_S A s.heap H locs) (hA : ∀ q : Nat, s.heap.size ≤ q → A q) : ∀ q, va_A ws H.size q → A q := by
  intro q h
  rcases h with ⟨k, e, h⟩ | h
  · exact hD.2 k (q, e) h
  · exact hA q (Nat.le_trans hS.1 h)
theorem k_pre (hP : va_P D vwCl ws H) (hD : va_D A ws) (hS : va_S A s.heap H locs) (hE : kE D cy sa A s s.heap) (hA : ∀ q : Nat, s.heap.size ≤ q → A q) {av : List Value} : ∀ U : State, U.heap = H → s.WarmedH U.vm → kP D cy sa ws H.size av av.toArray U :=
  fun U hU hW => ⟨rfl, by rw [hU], by rw [hU]; exact hP, hD.weaken (fun _ _ _ _ => trivial), hE.call hS (k_free hD hS hA) hU hW⟩
theorem k_recv (hE : kE D cy sa A s s.heap) (hP : va_P D vwCl ws H) {a q0 ci : Nat} {q : vw_C} {fs : List Value} (hc : vwCl[ci]? = some q) (he : ws[q0]? = some (a, .inr (ci, fs))) : ∃ cell : Cell, H[a]? = some cell ∧ cell.vm.isStatics = false ∧ s.vm.findClass q.1 = some cell.cls := va_recv hE.1 hP hc he
/-- behind a call that answers an int: the frame -/
theorem k_goi {r : Int32} {st0 : List Value} {a : Array Value} (hr : va_Run p l e R s m args below meth c H locs cells slots 0 0 (F0 m pc ls st0) rest (kQi D (va_A ws H.size) r ws' a) (va_A ws H.size)) (hD : va_D A ws) (hS : va_S A s.heap H locs) (hA : ∀ q : Nat, s.heap.size ≤ q → A q)
    (kk : ∀ (H1 : Heap) (locs1 : List Loc), va_P D vwCl ws' H1 → va_D A ws' → va_S A s.heap H1 locs1 → W p l e R s m args below meth c H1 locs1 cells slots Q (F0 m (pc + 3) ls (.int r :: rest))) : W p l e R s m args below meth c H locs cells slots Q (F0 m pc ls st0) :=
  va_calli hr hS (fun q _ h => k_free hD hS hA q h) (k_free hD hS hA) (fun r1 u t H1 locs1 ht hvm hw hB hz1 hk1 hS1 => by
    cases hw
    exact kk H1 locs1 (by rw [← ht]; exact hB.1) (hB.2.weaken (fun k q _ h => k_free hD hS hA q.1 h)) hS1)
theorem k_gol {r : Int64} {st0 : List Value} {a : Array Value} (hr : va_Run p l e R s m args below meth c H locs cells slots 0 0 (F0 m pc ls st0) rest (kQl D (va_A ws H.size) r ws' a) (va_A ws H.size)) (hD : va_D A ws) (hS : va_S A s.heap H locs) (hA : ∀ q : Nat, s.heap.size ≤ q → A q)
    (kk : ∀ (H1 : Heap) (locs1 : List Loc), va_P D vwCl ws' H1 → va_D A ws' → va_S A s.heap H1 locs1 → W p l e R s m args below meth c H1 locs1 cells slots Q (F0 m (pc + 3) ls (.long r :: rest))) : W p l e R s m args below meth c H locs cells slots Q (F0 m pc ls st0) :=
  va_calll hr hS (fun q _ h => k_free hD hS hA q h) (k_free hD hS hA) (fun r1 u t H1 locs1 ht hvm hw hB hz1 hk1 hS1 => by
    cases hw
    exact kk H1 locs1 (by rw [← ht]; exact hB.1) (hB.2.weaken (fun k q _ h => k_free hD hS hA q.1 h)) hS1)
theorem k_gov {st0 : List Value} {a : Array Value} (hr : va_Run p l e R s m args below meth c H locs cells slots 0 0 (F0 m pc ls st0) rest (kQv D (va_A ws H.size) ws' a) (va_A ws H.size)) (hD : va_D A ws) (hS : va_S A s.heap H locs) (hA : ∀ q : Nat, s.heap.size ≤ q → A q)
    (kk : ∀ (H1 : Heap) (locs1 : List Loc), va_P D vwCl ws' H1 → va_D A ws' → va_S A s.heap H1 locs1 → W p l e R s m args below meth c H1 locs1 cells slots Q (F0 m (pc + 3) ls rest)) : W p l e R s m args below meth c H locs cells slots Q (F0 m pc ls st0) :=
  va_callv hr hS (fun q _ h => k_free hD hS hA q h) (k_free hD hS hA) (fun u t H1 locs1 ht hvm hw hB hz1 hk1 hS1 => 
    kk H1 locs1 (by rw [← ht]; exact hB.1) (hB.2.weaken (fun k q _ h => k_free hD hS hA q.1 h)) hS1)
end CALLS
/-! constructors: a world of their own cells, new ones behind; what comes is told by the new addresses t -/
theorem k_cy0 {D : va_G} {cy : Nat → ClassId} {s : State} {c : ClassId} (h : va_K D vwCl (kTys cy ++ [(c, .int)]) s) : c = cy 0 := Option.some.inj ((h.2 4 _ rfl).2.symm.trans (h.2 0 _ rfl).2)
theorem k_cy1 {D : va_G} {cy : Nat → ClassId} {s : State} {c : ClassId} (h : va_K D vwCl (kTys cy ++ [(c, .long)]) s) : c = cy 1 := Option.some.inj ((h.2 4 _ rfl).2.symm.trans (h.2 1 _ rfl).2)
theorem k_cy3 {D : va_G} {cy : Nat → ClassId} {s : State} {c : ClassId} (h : va_K D vwCl (kTys cy ++ [(c, .object RX3)]) s) : c = cy 3 := by
  obtain ⟨_, _, _, _, _, h1⟩ := (h.2 4 _ rfl).2
  obtain ⟨_, _, _, _, _, h2⟩ := (h.2 3 _ rfl).2
  exact Option.some.inj (h1.symm.trans h2)
abbrev kQc (D : va_G) (A : Nat → Prop) (b : Nat) (w1 : (Nat → Nat) → va_W) : Array Value → State → Outcome → State → Prop := va_Qv (fun (t : Nat → Nat) => t 0 = b) (fun t U => va_P D vwCl (w1 t) U.heap ∧ va_D A (w1 t)) A
abbrev kMc (l : Launch) (y : MethodName) (wsY : List Cond) (rm : Room) (D : va_G) (cy : Nat → ClassId) (sa : Nat → Nat) (ws : va_W) (sz : Nat) (b : Nat) (w1 : (Nat → Nat) → va_W) (mc ms : Nat) : Prop := Met l y wsY rm (kP D cy sa ws sz [.ref b]) (kQc D (va_A ws sz) b w1) mc ms (va_A ws sz)
section CTOR
variable {p : Program} {l : Launch} {e : Env} {R : Room} {s : State} {m : MethodId} {args : Array Value} {below : List Frame} {meth : Method} {c : Code} {H : Heap} {locs : List Loc} {cells slots : Nat} {Q : State → Prop}
variable {cc : ByteArray} {pc mc ms : Nat} {ls : Array Slot} {D : va_G} {cy : Nat → ClassId} {sa : Nat → Nat} {A : Nat → Prop} {ws wc wr : va_W} {w1 : (Nat → Nat) → va_W} {b : Nat} {rest : List Value}
theorem k_cret (hx : p.tables.exec = Jvm.exec) (hb : c.code = cc) (hr : meth.sig.returnType = none) (t : Nat → Nat) (ht : t 0 = b) (hP : va_P D vwCl (w1 t) H) (hD : va_D A (w1 t)) (hS : va_S A s.heap H locs) (hc : cells ≤ mc) (hs : slots ≤ ms) (hlocks : meth.locks = false) (hdg : decode cc pc = .ok (.return_, 1)) : W p l e R s m args below meth c H locs cells slots (MQ below (kQc D A b w1) args s mc ms A) (F0 m pc ls []) := by
  refine W.widen (k := mc) (n := ms) hc hs ?_
  exact W.vret hx hb hr (fun u hu hW => ⟨⟨t, rfl, ht, by rw [hu]; exact hP, hD⟩, hS.F hu⟩) hS.2.2 hdg (hlocks := hlocks)
theorem k_gonew {st0 : List Value} {a : Array Value} (hr : va_Run p l e R s m args below meth c H locs cells slots mc ms (F0 m pc ls st0) rest (kQc D (va_A wc H.size) b w1 a) (va_A wc H.size)) (hP : va_P D vwCl ws H) (hD : va_D A ws) (hS : va_S A s.heap H locs) (hDc : va_D A wc) (hA : ∀ q : Nat, s.heap.size ≤ q → A q)
    (isC isR : List Nat) (hC : isC.map (fun i => ws[i]?) = wc.map some) (hR : isR.map (fun i => ws[i]?) = wr.map some) (hn : va_nd isR = true) (hdis : ∀ i ∈ isR, i ∉ isC)
    (kk : ∀ (t : Nat → Nat) (H1 : Heap) (locs1 : List Loc), t 0 = b → va_P D vwCl (wr ++ w1 t) H1 → va_D A (wr ++ w1 t) → va_S A s.heap H1 locs1 → W p l e R s m args below meth c H1 locs1 (cells + mc) (slots + ms) Q (F0 m (pc + 3) ls rest)) : W p l e R s m args below meth c H locs cells slots Q (F0 m pc ls st0) :=
  va_callv hr hS (fun q _ h => k_free hDc hS hA q h) (k_free hDc hS hA) (fun t u H1 locs1 ht hvm hw hB hz1 hk1 hS1 => by
    obtain ⟨hP1, hD1⟩ := hB
    rw [ht] at hP1
    obtain ⟨hP2, hD2⟩ := va_join (wr := wr) (w1 := w1 t) hP hD isC isR hC hR hn hdis hk1 (k_free hDc hS hA) hP1 hD1
    exact kk t H1 locs1 hw hP2 hD2 hS1)
end CTOR
/-! a world with one more row (a day by cells), and without it -/
abbrev kRow (q : Nat → Nat) (cy : Nat → ClassId) (f : Nat → Int32) : Nat × va_E := (q 27, .inl (cy 0, 64, .inl f))
theorem k_xrP {D : va_G} {q : Nat → Nat} {cy : Nat → ClassId} {u : KS} {f : Nat → Int32} {rest : va_W} {H : Heap} (hf : gR u 20 = f) (h : va_P D vwCl (WXR q cy u ++ rest) H) : va_P D vwCl (WX q cy u ++ (kRow q cy f :: rest)) H := by subst hf; exact h
theorem k_xrD {A : Nat → Prop} {q : Nat → Nat} {cy : Nat → ClassId} {u : KS} {f : Nat → Int32} {rest : va_W} (hf : gR u 20 = f) (h : va_D A (WXR q cy u ++ rest)) : va_D A (WX q cy u ++ (kRow q cy f :: rest)) := by subst hf; exact h
theorem k_rxP {D : va_G} {q : Nat → Nat} {cy : Nat → ClassId} {u : KS} {f : Nat → Int32} {rest : va_W} {H : Heap} (h : va_P D vwCl (WX q cy u ++ (kRow q cy f :: rest)) H) : va_P D vwCl (WXR q cy (sR u 20 f) ++ rest) H := h
theorem k_rxD {A : Nat → Prop} {q : Nat → Nat} {cy : Nat → ClassId} {u : KS} {f : Nat → Int32} {rest : va_W} (h : va_D A (WX q cy u ++ (kRow q cy f :: rest))) : va_D A (WXR q cy (sR u 20 f) ++ rest) := h
theorem k_rxP0 {D : va_G} {q : Nat → Nat} {cy : Nat → ClassId} {u : KS} {f : Nat → Int32} {rest : va_W} {H : Heap} (hf : gR u 20 = f) (h : va_P D vwCl (WX q cy u ++ (kRow q cy f :: rest)) H) : va_P D vwCl (WXR q cy u ++ rest) H := by subst hf; exact h
theorem k_rxD0 {A : Nat → Prop} {q : Nat → Nat} {cy : Nat → ClassId} {u : KS} {f : Nat → Int32} {rest : va_W} (hf : gR u 20 = f) (h : va_D A (WX q cy u ++ (kRow q cy f :: rest))) : va_D A (WXR q cy u ++ rest) := by subst hf; exact h
theorem k_dropP {D : va_G} {cl : List vw_C} {a b : va_W} {c : Nat × va_E} {H : Heap} (h : va_P D cl (a ++ (c :: b)) H) : va_P D cl (a ++ b) H := by
  have h1 : va_P D cl ((c :: b) ++ a) H := va_P.swap (a := []) (b := a) (c := c :: b) h
  have h2 : va_P D cl (b ++ a) H := h1.by (fun k => k + 1) (fun k q hk => hk)
  exact va_P.swap (a := []) (b := b) (c := a) h2
theorem k_dropD {A : Nat → Prop} {a b : va_W} {c : Nat × va_E} (h : va_D A (a ++ (c :: b))) : va_D A (a ++ b) := by
  have h1 : va_D A ((c :: b) ++ a) := va_D.swap (a := []) (b := a) (c := c :: b) h
  have h2 : va_D A (b ++ a) := h1.by (fun k => k + 1) (fun k q hk => hk) (fun i j _ _ e => Nat.succ.inj e)
  exact va_D.swap (a := []) (b := b) (c := a) h2
abbrev kQr (D : va_G) (A : Nat → Prop) (w1 : Nat → va_W) : Array Value → State → Outcome → State → Prop := va_Qr (fun (_ : Unit) => True) (fun _ a U => va_P D vwCl (w1 a) U.heap ∧ va_D A (w1 a)) A
abbrev kMr (l : Launch) (y : MethodName) (wsY : List Cond) (rm : Room) (D : va_G) (cy : Nat → ClassId) (sa : Nat → Nat) (ws : va_W) (sz : Nat) (av : List Value) (w1 : Nat → va_W) (mc ms : Nat) : Prop := Met l y wsY rm (kP D cy sa ws sz av) (kQr D (va_A ws sz) w1) mc ms (va_A ws sz)
section CALLN
variable {p : Program} {l : Launch} {e : Env} {R : Room} {s : State} {m : MethodId} {args : Array Value} {below : List Frame} {meth : Method} {c : Code} {H : Heap} {locs : List Loc} {cells slots : Nat} {Q : State → Prop}
variable {cc : ByteArray} {pc mc ms : Nat} {ls : Array Slot} {D : va_G} {cy : Nat → ClassId} {sa : Nat → Nat} {A : Nat → Prop} {ws ws' : va_W} {rest : List Value}
theorem k_goiN {r : Int32} {st0 : List Value} {a : Array Value} (hr : va_Run p l e R s m args below meth c H locs cells slots mc ms (F0 m pc ls st0) rest (kQi D (va_A ws H.size) r ws' a) (va_A ws H.size)) (hD : va_D A ws) (hS : va_S A s.heap H locs) (hA : ∀ q : Nat, s.heap.size ≤ q → A q)
    (kk : ∀ (H1 : Heap) (locs1 : List Loc), va_P D vwCl ws' H1 → va_D A ws' → va_S A s.heap H1 locs1 → W p l e R s m args below meth c H1 locs1 (cells + mc) (slots + ms) Q (F0 m (pc + 3) ls (.int r :: rest))) : W p l e R s m args below meth c H locs cells slots Q (F0 m pc ls st0) :=
  va_calli hr hS (fun q _ h => k_free hD hS hA q h) (k_free hD hS hA) (fun r1 u t H1 locs1 ht hvm hw hB hz1 hk1 hS1 => by
    cases hw
    exact kk H1 locs1 (by rw [← ht]; exact hB.1) (hB.2.weaken (fun k q _ h => k_free hD hS hA q.1 h)) hS1)
theorem k_gor {w1 : Nat → va_W} {st0 : List Value} {a : Array Value} (hr : va_Run p l e R s m args below meth c H locs cells slots mc ms (F0 m pc ls st0) rest (kQr D (va_A ws H.size) w1 a) (va_A ws H.size)) (hD : va_D A ws) (hS : va_S A s.heap H locs) (hA : ∀ q : Nat, s.heap.size ≤ q → A q)
    (kk : ∀ (t : Nat) (H1 : Heap) (locs1 : List Loc), va_P D vwCl (w1 t) H1 → va_D A (w1 t) → va_S A s.heap H1 locs1 → W p l e R s m args below meth c H1 locs1 (cells + mc) (slots + ms) Q (F0 m (pc + 3) ls (.ref t :: rest))) : W p l e R s m args below meth c H locs cells slots Q (F0 m pc ls st0) :=
  va_callr hr hS (fun q _ h => k_free hD hS hA q h) (k_free hD hS hA) (fun u t U H1 locs1 ht hvm hw hB hz1 hk1 hS1 => 
    kk t H1 locs1 (by rw [← ht]; exact hB.1) (hB.2.weaken (fun k q _ h => k_free hD hS hA q.1 h)) hS1)
theorem k_aret {ty : FieldType} (hx : p.tables.exec = Jvm.exec) (hb : c.code = cc) (hr : meth.sig.returnType = some (.array ty)) {w1 : Nat → va_W} {t : Nat} (hP : va_P D vwCl (w1 t) H) (hD : va_D A (w1 t)) (hS : va_S A s.heap H locs) (hc : cells ≤ mc) (hs : slots ≤ ms) (hlocks : meth.locks = false) (hdg : decode cc pc = .ok (.areturn, 1)) : W p l e R s m args below meth c H locs cells slots (MQ below (kQr D A w1) args s mc ms A) (F0 m pc ls [.ref t]) := by
  refine W.widen (k := mc) (n := ms) hc hs ?_
  exact W.aret (v := .ref t) hx hb hr (Or.inr ⟨_, rfl⟩) (Or.inr ⟨_, rfl⟩) (fun u hu hW => ⟨⟨(), t, rfl, trivial, by rw [hu]; exact hP, hD⟩, hS.F hu⟩) hS.2.2 hdg (hlocks := hlocks)
end CALLN
