/-! the model weighs -/
def GF (w w' : KS) : Prop := (∀ k, k < 6 ∨ 10 ≤ k → gI w' k = gI w k) ∧ gR w' = gR w ∧ (∀ k, k ≠ 0 → gA w' k = gA w k)
theorem GF.rf (u : KS) : GF u u := ⟨fun _ _ => rfl, rfl, fun _ _ => rfl⟩
theorem GF.tr {u v w : KS} (h : GF u v) (g : GF v w) : GF u w := ⟨fun k hk => (g.1 k hk).trans (h.1 k hk), g.2.1.trans h.2.1, fun k hk => (g.2.2 k hk).trans (h.2.2 k hk)⟩
theorem GF.op {u v : KS} (h : GF u v) (g : Nat) : GF u (opS v g) := ⟨fun k hk => by
  unfold opS
  rw [s_II, if_neg (by omega), s_II, if_neg (by omega), s_II, if_neg (by omega), s_II, if_neg (by omega)]; exact h.1 k hk, h.2.1, h.2.2⟩
theorem GF.A {u v : KS} (h : GF u v) (f : Nat → Int64) : GF u (sA v 0 f) := ⟨h.1, h.2.1, fun j hj => by rw [s_AA, if_neg hj]; exact h.2.2 j hj⟩
theorem GF.L {u v : KS} (h : GF u v) (x : Int64) : GF u (sL v 0 x) := ⟨h.1, h.2.1, h.2.2⟩
theorem lev6 {x t : Nat} {X T : Int32} (hX : X = nI x) (hT : T = nI t) (hx : x < 2147483648) (ht : t < 2147483648) : (if X = 0 then some (0 : Int32) else if T < X then some 2 else some 1) = some (nI (lev t x)) := by
  subst hX hT
  exact e_lev hx ht
def MG (v : KS) (D : List (Nat × Nat)) (K : Nat) : Prop := (∀ g, g < 2731 → gA v 0 g = lN (BW D (gR v 0) K g)) ∧ gL v 0 = lN (sm (BW D (gR v 0) K) 2731)
theorem lN_0 {a : Nat} (ha : a < 9223372036854775808) : (lg_cmp (lN a) 0 = 0) ↔ a = 0 := by
  rw [z_cmp0]
  exact ⟨fun q => lN_inj ha (by decide) q, fun q => by rw [q]; rfl⟩
theorem lN_le0 {a : Nat} (ha : a < 9223372036854775808) : (lg_cmp (lN a) 0 ≤ 0) ↔ a = 0 := by
  rw [z_cmple, zl_le, zl_lN, show (0 : Int64).toInt = 0 from rfl]
  omega
