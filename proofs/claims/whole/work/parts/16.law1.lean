/-! the law: what it needs of the two mirrors, method by method; its walk -/
def IW (cy : Nat → ClassId) : Option ((Nat → Nat) × KS) → va_W
  | none => []
  | some x => Wkept x.1 cy x.2
def LWd (q q2 : Nat → Nat) (cy : Nat → ClassId) (u v : KS) (i0 i1 : Option ((Nat → Nat) × KS)) : va_W := WX q cy u ++ (IW cy i0 ++ (IW cy i1 ++ WM q2 cy v))
abbrev l_A (s : State) : Nat → Prop := fun q => s.heap.size ≤ q
theorem l_in {i L k : Nat} (hi : i + 5 ≤ L) (hL : L ≤ 2560) (hk : k < 5) : vp_in (nI i + nI k) L := by
  rw [nI_add]
  exact nI_in (by omega) (by omega)
theorem l_in0 {i L : Nat} (hi : i + 5 ≤ L) (hL : L ≤ 2560) : vp_in (nI i) L := nI_in (by omega) (by omega)
theorem l_cP {D : va_G} {cl : List vw_C} {a b : va_W} {H : Heap} (h : va_P D cl (a ++ b) H) : va_P D cl (b ++ a) H := va_P.swap (a := []) (b := a) (c := b) h
theorem l_cD {A : Nat → Prop} {a b : va_W} (h : va_D A (a ++ b)) : va_D A (b ++ a) := va_D.swap (a := []) (b := a) (c := b) h
theorem l_toP {D : va_G} {cl : List vw_C} {a b c d : va_W} {H : Heap} (h : va_P D cl (a ++ (b ++ (c ++ d))) H) : va_P D cl (d ++ (a ++ (b ++ c))) H := l_cP (a := a ++ (b ++ c)) (b := d) (by rw [List.append_assoc, List.append_assoc]; exact h)
theorem l_toD {A : Nat → Prop} {a b c d : va_W} (h : va_D A (a ++ (b ++ (c ++ d)))) : va_D A (d ++ (a ++ (b ++ c))) := l_cD (a := a ++ (b ++ c)) (b := d) (by rw [List.append_assoc, List.append_assoc]; exact h)
theorem l_ofP {D : va_G} {cl : List vw_C} {a b c d : va_W} {H : Heap} (h : va_P D cl (d ++ (a ++ (b ++ c))) H) : va_P D cl (a ++ (b ++ (c ++ d))) H := by
  have h1 := l_cP (a := d) (b := a ++ (b ++ c)) h
  rw [List.append_assoc, List.append_assoc] at h1
  exact h1
theorem l_ofD {A : Nat → Prop} {a b c d : va_W} (h : va_D A (d ++ (a ++ (b ++ c)))) : va_D A (a ++ (b ++ (c ++ d))) := by
  have h1 := l_cD (a := d) (b := a ++ (b ++ c)) h
  rw [List.append_assoc, List.append_assoc] at h1
  exact h1
theorem l_mP {D : va_G} {cl : List vw_C} {a b c d : va_W} {H : Heap} (h : va_P D cl (a ++ (b ++ (c ++ d))) H) : va_P D cl (a ++ (c ++ (b ++ d))) H := by
  have h1 : va_P D cl ((a ++ b) ++ (c ++ d)) H := by rw [List.append_assoc]; exact h
  have h2 := va_P.swap h1
  have h3 : va_P D cl (((a ++ c) ++ d) ++ b) H := by rw [List.append_assoc a c d]; exact h2
  have h4 := va_P.swap h3
  rw [List.append_assoc, List.append_assoc] at h4
  exact h4
theorem l_mD {A : Nat → Prop} {a b c d : va_W} (h : va_D A (a ++ (b ++ (c ++ d)))) : va_D A (a ++ (c ++ (b ++ d))) := by
  have h1 : va_D A ((a ++ b) ++ (c ++ d)) := by rw [List.append_assoc]; exact h
  have h2 := va_D.swap h1
  have h3 : va_D A (((a ++ c) ++ d) ++ b) := by rw [List.append_assoc a c d]; exact h2
  have h4 := va_D.swap h3
  rw [List.append_assoc, List.append_assoc] at h4
  exact h4
abbrev RR : Type := KS → Option KS → Option KS → KS → Prop

def LM_type (R : RR) : Prop := ∀ (u : KS) (k0 k1 : Option KS) (v : KS) (a1 : Int64) (a3 : Int32), R u k0 k1 v → ∃ r u1 v1 , mX5_type u a1 a3 = some (r, u1) ∧ mX6_type v a1 a3 = some (r, v1) ∧ R u1 k0 k1 v1 ∧ gO u1 = gO u
def LM_clear (R : RR) : Prop := ∀ (u : KS) (k0 k1 : Option KS) (v : KS) , R u k0 k1 v → ∃ r u1 v1 , mX5_clear u  = some (r, u1) ∧ mX6_clear v  = some (r, v1) ∧ R u1 k0 k1 v1 ∧ gO u1 = gO u
def LM_faulty (R : RR) : Prop := ∀ (u : KS) (k0 k1 : Option KS) (v : KS) , R u k0 k1 v → ∃ r u1 v1 , mX5_faulty u  = some (r, u1) ∧ mX6_faulty v  = some (r, v1) ∧ R u1 k0 k1 v1 ∧ gO u1 = gO u
def LM_minutes (R : RR) : Prop := ∀ (u : KS) (k0 k1 : Option KS) (v : KS) , R u k0 k1 v → ∃ r u1 v1 , mX5_minutes u  = some (r, u1) ∧ mX6_minutes v  = some (r, v1) ∧ R u1 k0 k1 v1 ∧ gO u1 = gO u
def LM_put (R : RR) : Prop := ∀ (u : KS) (k0 k1 : Option KS) (v : KS) (a1 : Int32) (a2 : Int32), R u k0 k1 v → ∃ r u1 v1 , mX5_put u a1 a2 = some (r, u1) ∧ mX6_put v a1 a2 = some (r, v1) ∧ R u1 k0 k1 v1 ∧ gO u1 = gO u
def LM_prior (R : RR) : Prop := ∀ (u : KS) (k0 k1 : Option KS) (v : KS) (a1 : Int32) (a2 : Int32), R u k0 k1 v → ∃ r u1 v1 , mX5_prior u a1 a2 = some (r, u1) ∧ mX6_prior v a1 a2 = some (r, v1) ∧ R u1 k0 k1 v1 ∧ gO u1 = gO u
def LM_fault (R : RR) : Prop := ∀ (u : KS) (k0 k1 : Option KS) (v : KS) (a1 : Int32) (a2 : Int32) (a3 : Int32), R u k0 k1 v → ∃ r u1 v1 , mX5_fault u a1 a2 a3 = some (r, u1) ∧ mX6_fault v a1 a2 a3 = some (r, v1) ∧ R u1 k0 k1 v1 ∧ gO u1 = gO u
def LM_warm (R : RR) : Prop := ∀ (u : KS) (k0 k1 : Option KS) (v : KS) (a1 : Int32), R u k0 k1 v → ∃ r u1 v1 , mX5_warm u a1 = some (r, u1) ∧ mX6_warm v a1 = some (r, v1) ∧ R u1 k0 k1 v1 ∧ gO u1 = gO u
def LM_gives (R : RR) : Prop := ∀ (u : KS) (k0 k1 : Option KS) (v : KS) (a1 : Int32) (a2 : Int32) (a3 : Int32) (a4 : Int32), R u k0 k1 v → ∃ r u1 v1 , mX5_gives u a1 a2 a3 a4 = some (r, u1) ∧ mX6_gives v a1 a2 a3 a4 = some (r, v1) ∧ R u1 k0 k1 v1 ∧ gO u1 = gO u
def LM_smoke (R : RR) : Prop := ∀ (u : KS) (k0 k1 : Option KS) (v : KS) (a1 : Int32) (a2 : Int32) (a3 : Int32), R u k0 k1 v → ∃ r u1 v1 , mX5_smoke u a1 a2 a3 = some (r, u1) ∧ mX6_smoke v a1 a2 a3 = some (r, v1) ∧ R u1 k0 k1 v1 ∧ gO u1 = gO u
def LM_goes (R : RR) : Prop := ∀ (u : KS) (k0 k1 : Option KS) (v : KS) (a1 : Int32), R u k0 k1 v → ∃ r u1 v1 , mX5_goes u a1 = some (r, u1) ∧ mX6_goes v a1 = some (r, v1) ∧ R u1 k0 k1 v1 ∧ gO u1 = gO u
def LM_look (R : RR) : Prop := ∀ (u : KS) (k0 k1 : Option KS) (v : KS) (a1 : Int32) (a2 : Int32) (a3 : Int32) (a4 : Int32), R u k0 k1 v → ∃ r u1 v1 , mX5_look u a1 a2 a3 a4 = some (r, u1) ∧ mX6_look v a1 a2 a3 a4 = some (r, v1) ∧ R u1 k0 k1 v1 ∧ gO u1 = gO u
def LM_forget (R : RR) : Prop := ∀ (u : KS) (k0 k1 : Option KS) (v : KS) , R u k0 k1 v → ∃ r u1 v1 , mX5_forget u  = some (r, u1) ∧ mX6_forget v  = some (r, v1) ∧ R u1 k0 k1 v1 ∧ gO u1 = gO u
def LM_odds (R : RR) : Prop := ∀ (u : KS) (k0 k1 : Option KS) (v : KS) (a1 : Int32) (a2 : Int32), R u k0 k1 v → ∃ r u1 v1 , mX5_odds u a1 a2 = some (r, u1) ∧ mX6_odds v a1 a2 = some (r, v1) ∧ R u1 k0 k1 v1 ∧ gO u1 = gO u
def LM_two (R : RR) : Prop := ∀ (u : KS) (k0 k1 : Option KS) (v : KS) , R u k0 k1 v → ∃ r u1 v1 , mX5_two u  = some (r, u1) ∧ mX6_two v  = some (r, v1) ∧ R u1 k0 k1 v1 ∧ gO u1 = gO u
def LM_likeliest (R : RR) : Prop := ∀ (u : KS) (k0 k1 : Option KS) (v : KS) , R u k0 k1 v → ∃ r u1 v1 , mX5_likeliest u  = some (r, u1) ∧ mX6_likeliest v  = some (r, v1) ∧ R u1 k0 k1 v1 ∧ gO u1 = gO u
def LM_guess (R : RR) : Prop := ∀ (u : KS) (k0 k1 : Option KS) (v : KS) (a1 : Int32) (a2 : Int32), R u k0 k1 v → ∃ r u1 v1 , mX5_guess u a1 a2 = some (r, u1) ∧ mX6_guess v a1 a2 = some (r, v1) ∧ R u1 k0 k1 v1 ∧ gO u1 = gO u
def LM_next (R : RR) : Prop := ∀ (u : KS) (k0 k1 : Option KS) (v : KS) (a1 : Int32), R u k0 k1 v → ∃ r u1 v1 , mX5_next u a1 = some (r, u1) ∧ mX6_next v a1 = some (r, v1) ∧ R u1 k0 k1 v1 ∧ gO u1 = gO u
def LM_leaks (R : RR) : Prop := ∀ (u : KS) (k0 k1 : Option KS) (v : KS) (a1 : Int32), R u k0 k1 v → ∃ r u1 v1 , mX5_leaks u a1 = some (r, u1) ∧ mX6_leaks v a1 = some (r, v1) ∧ R u1 k0 k1 v1 ∧ gO u1 = gO u
def LM_hidden (R : RR) : Prop := ∀ (u : KS) (k0 k1 : Option KS) (v : KS) , R u k0 k1 v → ∃ r u1 v1 , mX5_hidden u  = some (r, u1) ∧ mX6_hidden v  = some (r, v1) ∧ R u1 k0 k1 v1 ∧ gO u1 = gO u
def LM_gone (R : RR) : Prop := ∀ (u : KS) (k0 k1 : Option KS) (v : KS) (a1 : Int32) (a2 : Int32) (a3 : Int32), R u k0 k1 v → ∃ r u1 v1 , mX5_gone u a1 a2 a3 = some (r, u1) ∧ mX6_gone v a1 a2 a3 = some (r, v1) ∧ R u1 k0 k1 v1 ∧ gO u1 = gO u
def LM_harvest (R : RR) : Prop := ∀ (u : KS) (k0 k1 : Option KS) (v : KS) (a1 : Int32) (a2 : Int32) (a3 : Int32) (a4 : Int32), R u k0 k1 v → ∃ r u1 v1 , mX5_harvest u a1 a2 a3 a4 = some (r, u1) ∧ mX6_harvest v a1 a2 a3 a4 = some (r, v1) ∧ R u1 k0 k1 v1 ∧ gO u1 = gO u
def LM_drive (R : RR) : Prop := ∀ (u : KS) (k0 k1 : Option KS) (v : KS) (a1 : Int32) (a2 : Int32) (a3 : Int32) (a4 : Int32), R u k0 k1 v → ∃ r u1 v1 , mX5_drive u a1 a2 a3 a4 = some (r, u1) ∧ mX6_drive v a1 a2 a3 a4 = some (r, v1) ∧ R u1 k0 k1 v1 ∧ gO u1 = gO u
def LM_part (R : RR) : Prop := ∀ (u : KS) (k0 k1 : Option KS) (v : KS) (a1 : Int32) (a2 : Int32) (a3 : Int32), R u k0 k1 v → ∃ r u1 v1 , mX5_part u a1 a2 a3 = some (r, u1) ∧ mX6_part v a1 a2 a3 = some (r, v1) ∧ R u1 k0 k1 v1 ∧ gO u1 = gO u
def LM_takes (R : RR) : Prop := ∀ (u : KS) (k0 k1 : Option KS) (v : KS) (a1 : Int32), R u k0 k1 v → ∃ r u1 v1 , mX5_takes u a1 = some (r, u1) ∧ mX6_takes v a1 = some (r, v1) ∧ R u1 k0 k1 v1 ∧ gO u1 = gO u
def LM_sign (R : RR) : Prop := ∀ (u : KS) (k0 k1 : Option KS) (v : KS) (a1 : Int32), R u k0 k1 v → ∃ r u1 v1 , mX5_sign u a1 = some (r, u1) ∧ mX6_sign v a1 = some (r, v1) ∧ R u1 k0 k1 v1 ∧ gO u1 = gO u
def LM_limb (R : RR) : Prop := ∀ (u : KS) (k0 k1 : Option KS) (v : KS) (a1 : Int32) (a2 : Int32), R u k0 k1 v → ∃ r u1 v1 , mX5_limb u a1 a2 = some (r, u1) ∧ mX6_limb v a1 a2 = some (r, v1) ∧ R u1 k0 k1 v1 ∧ gO u1 = gO u
def LM_status (R : RR) : Prop := ∀ (u : KS) (k0 k1 : Option KS) (v : KS) (a1 : Int32), R u k0 k1 v → ∃ r u1 v1 , mX5_status u a1 = some (r, u1) ∧ mX6_status v a1 = some (r, v1) ∧ R u1 k0 k1 v1 ∧ gO u1 = gO u
def LM_count (R : RR) : Prop := ∀ (u : KS) (k0 k1 : Option KS) (v : KS) (a1 : Int32), R u k0 k1 v → ∃ r u1 v1 , mX5_count u a1 = some (r, u1) ∧ mX6_count v a1 = some (r, v1) ∧ R u1 k0 k1 v1 ∧ gO u1 = gO u
def LM_digest (R : RR) : Prop := ∀ (u : KS) (k0 k1 : Option KS) (v : KS) , R u k0 k1 v → ∃ r , mX5_digest u  = some r ∧ mX6_digest v  = some r ∧ R u k0 k1 v
def LM_imageb (R : RR) : Prop := ∀ (u : KS) (k0 k1 : Option KS) (v : KS) (a : Int32), a < 0 ∨ ¬ a < 2 → R u k0 k1 v → ∃ r u1 v1, mX5_bad u = some (r, u1) ∧ mX6_image v a = some (r, v1) ∧ R u1 k0 k1 v1 ∧ gO u1 = gO u
def LM_image0 (R : RR) : Prop := ∀ (u : KS) (k0 k1 : Option KS) (v : KS), R u k0 k1 v → ∃ k v1, mX3_become (kJ (k0.getD kkept) u) = some k ∧ mX6_image v 0 = some (1, v1) ∧ ∀ o, R (sO u o) (some k) k1 v1
def LM_image1 (R : RR) : Prop := ∀ (u : KS) (k0 k1 : Option KS) (v : KS), R u k0 k1 v → ∃ k v1, mX3_become (kJ (k1.getD kkept) u) = some k ∧ mX6_image v 1 = some (1, v1) ∧ ∀ o, R (sO u o) k0 (some k) v1
def LM_fromb (R : RR) : Prop := ∀ (u : KS) (k0 k1 : Option KS) (v : KS) (a : Int32), a < 0 ∨ ¬ a < 2 → R u k0 k1 v → ∃ r u1 v1, mX5_bad u = some (r, u1) ∧ mX6_from v a = some (r, v1) ∧ R u1 k0 k1 v1 ∧ gO u1 = gO u
def LM_fromn0 (R : RR) : Prop := ∀ (u : KS) (k1 : Option KS) (v : KS), R u none k1 v → ∃ r u1 v1, mX5_no u = some (r, u1) ∧ mX6_from v 0 = some (r, v1) ∧ R u1 none k1 v1 ∧ gO u1 = gO u
def LM_fromn1 (R : RR) : Prop := ∀ (u : KS) (k0 : Option KS) (v : KS), R u k0 none v → ∃ r u1 v1, mX5_no u = some (r, u1) ∧ mX6_from v 1 = some (r, v1) ∧ R u1 k0 none v1 ∧ gO u1 = gO u
def LM_froms0 (R : RR) : Prop := ∀ (u : KS) (k : KS) (k1 : Option KS) (v : KS), R u (some k) k1 v → ∃ r u1 v1, mX5_fromS u k = some (r, u1) ∧ mX6_from v 0 = some (r, v1) ∧ R u1 (some k) k1 v1 ∧ gO u1 = gO u
def LM_froms1 (R : RR) : Prop := ∀ (u : KS) (k0 : Option KS) (k : KS) (v : KS), R u k0 (some k) v → ∃ r u1 v1, mX5_fromS u k = some (r, u1) ∧ mX6_from v 1 = some (r, v1) ∧ R u1 k0 (some k) v1 ∧ gO u1 = gO u
def IM (u : KS) (i0 i1 : Option ((Nat → Nat) × KS)) : Prop := gO u 0 = i0.map (fun x => x.1 0) ∧ gO u 1 = i1.map (fun x => x.1 0)
