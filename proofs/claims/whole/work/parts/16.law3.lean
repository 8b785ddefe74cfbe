section LAWI
variable {p : Program} {l : Launch} {e : Env} {s : State} {m : MethodId} {below : List Frame} {meth : Method} {c : Code} {b L i : Nat} {xs : Nat → Int32} {D : va_G} {cy : Nat → ClassId} {sa : Nat → Nat} {q q2 : Nat → Nat} {u v : KS} {i0 i1 : Option ((Nat → Nat) × KS)} {H : Heap} {ls : Array Slot} {cells slots : Nat} {Z : State → Prop} {R : RR}
theorem l_sO (u : KS) : sO u (gO u) = u := by
  obtain ⟨a, b, c, d, e⟩ := u
  rfl
theorem l_01 {a : Int32} (h0 : ¬ a < 0) (h2 : a < 2) : a = 0 ∨ a = 1 := by
  rw [z_lt] at h0 h2
  have e2 : (2 : Int32).toInt = 2 := rfl
  have e0 : (0 : Int32).toInt = 0 := rfl
  rw [e0] at h0
  rw [e2] at h2
  rcases (show a.toInt = 0 ∨ a.toInt = 1 by omega) with h | h
  · exact Or.inl (Int32.toInt_inj.mp h)
  · exact Or.inr (Int32.toInt_inj.mp h)
set_option maxHeartbeats 1000000 in
theorem lc_imageb (hx : p.tables.exec = Jvm.exec) (hb : c.code = code) (hml : c.maxLocals = 4) (hown : s.vm.findClass RL = some m.cls) (hts : ∀ w ∈ wsL_law, w.before #[Value.ref b] s = true) (hX : va_X b L xs s s.heap) (hbl : b < s.heap.size) (hE : kE D cy sa (l_A s) s s.heap) (hi : i + 5 ≤ L) (hL : L ≤ 2560) (hcs : cells ≤ room_1.cells) (hss : slots ≤ room_1.slots) (hM : LM_imageb R) (ha : (xs ((nI i) + 1).toNatClampNeg) < 0 ∨ ¬ (xs ((nI i) + 1).toNatClampNeg) < 2) (hR : R u (i0.map Prod.snd) (i1.map Prod.snd) v) (hP : va_P D vwCl (LWd q q2 cy u v i0 i1) H) (hD : va_D (l_A s) (LWd q q2 cy u v i0 i1)) (hS : va_S (l_A s) s.heap H []) (hl : lv_has ls 4 [(0, .ref b), (1, .ref (q 0)), (2, .ref (q2 0)), (3, .int (nI i))]) (K : ∀ (u1 v1 : KS) (H : Heap), R u1 (i0.map Prod.snd) (i1.map Prod.snd) v1 → gO u1 = gO u → va_P D vwCl (LWd q q2 cy u1 v1 i0 i1) H → va_D (l_A s) (LWd q q2 cy u1 v1 i0 i1) → va_S (l_A s) s.heap H [] → W p l e room_1 s m #[Value.ref b] below meth c H [] cells slots Z (F0 m 1123 ls [])) : W p l e room_1 s m #[Value.ref b] below meth c H [] cells slots Z (F0 m 1017 ls []) := by
  obtain ⟨r, u1, v1, e1, e2, hR1, hO⟩ := hM u _ _ v (xs ((nI i) + 1).toNatClampNeg) ha hR
  have hP : va_P D vwCl (WX q cy u ++ (IW cy i0 ++ (IW cy i1 ++ WM q2 cy v))) H := hP
  have hD : va_D (l_A s) (WX q cy u ++ (IW cy i0 ++ (IW cy i1 ++ WM q2 cy v))) := hD
  have hA : ∀ x : Nat, s.heap.size ≤ x → l_A s x := fun x h => h
  have hbA : ¬ l_A s b := Nat.not_le.mpr hbl
  refine lv_aload_n hx hb dL_law_1017 rfl (lv_at hl 1 rfl) ?_
  refine lv_aload_n hx hb dL_law_1018 rfl (lv_at hl 0 rfl) ?_
  refine lv_iload_n hx hb dL_law_1019 rfl (lv_at hl 3 rfl) ?_
  refine lv_iconst (v := 1) hx hb dL_law_1020 (by decide) ?_
  refine lv_iadd hx hb dL_law_1021 ?_
  refine va_sld hx hb hX hbl hbA hS (l_in (k := 1) hi hL (by decide)) dL_law_1022 ?_
  refine k_goi (va_runV (As := [.int (xs ((nI i) + 1).toNatClampNeg)]) (rest := []) ⟨hx, hb, hml, hown, hts⟩ (zX5_image_b l D cy sa q (IW cy i0 ++ (IW cy i1 ++ WM q2 cy v)) H.size u (xs ((nI i) + 1).toNatClampNeg) (r, u1) ha e1) (cwV 1 hts (gB_V wB845 wB846 wB847 wB2 wB848) rfl rfl rfl (by decide +kernel) ⟨Nat.le_of_ble_eq_true rfl, Nat.le_of_ble_eq_true rfl⟩) ⟨kP.blind, k_recv hE hP (ci := 5) (q0 := 0) rfl rfl, k_pre hP hD hS hE hA⟩ rfl rfl hl.1 rfl (lv_room (Nat.le_of_ble_eq_true rfl)) dL_law_1023 ⟨hcs, hss⟩) hD hS hA (fun H locs hP hD hS => ?_)
  have hP : va_P D vwCl (WX q cy u1 ++ (IW cy i0 ++ (IW cy i1 ++ WM q2 cy v))) H := hP
  have hD : va_D (l_A s) (WX q cy u1 ++ (IW cy i0 ++ (IW cy i1 ++ WM q2 cy v))) := hD
  have hP := l_toP hP
  have hD := l_toD hD
  refine lv_aload_n hx hb dL_law_1026 rfl (lv_at hl 2 rfl) ?_
  refine lv_aload_n hx hb dL_law_1027 rfl (lv_at hl 0 rfl) ?_
  refine lv_iload_n hx hb dL_law_1028 rfl (lv_at hl 3 rfl) ?_
  refine lv_iconst (v := 1) hx hb dL_law_1029 (by decide) ?_
  refine lv_iadd hx hb dL_law_1030 ?_
  refine va_sld hx hb hX hbl hbA hS (l_in (k := 1) hi hL (by decide)) dL_law_1031 ?_
  refine k_goi (va_runV (As := [.int (xs ((nI i) + 1).toNatClampNeg)]) (rest := [.int r]) ⟨hx, hb, hml, hown, hts⟩ (zX6_image l D cy sa q2 (WX q cy u1 ++ (IW cy i0 ++ IW cy i1)) H.size v (xs ((nI i) + 1).toNatClampNeg) (r, v1) e2) (cwV 1 hts (gB_V wB857 wB858 wB859 wB5 wB860) rfl rfl rfl (by decide +kernel) ⟨Nat.le_of_ble_eq_true rfl, Nat.le_of_ble_eq_true rfl⟩) ⟨kP.blind, k_recv hE hP (ci := 6) (q0 := 0) rfl rfl, k_pre hP hD hS hE hA⟩ rfl rfl hl.1 rfl (lv_room (Nat.le_of_ble_eq_true rfl)) dL_law_1032 ⟨hcs, hss⟩) hD hS hA (fun H locs hP hD hS => ?_)
  have hP : va_P D vwCl (WM q2 cy v1 ++ (WX q cy u1 ++ (IW cy i0 ++ IW cy i1))) H := hP
  have hD : va_D (l_A s) (WM q2 cy v1 ++ (WX q cy u1 ++ (IW cy i0 ++ IW cy i1))) := hD
  have hP := l_ofP hP
  have hD := l_ofD hD
  refine lv_icmp_eq (tgt := 1123) hx hb dL_law_1035 (by decide) (fun c9 => ?_) (fun c9 => absurd rfl c9)
  refine va_forget hS.2.2 ?_
  have hS : va_S (l_A s) s.heap H [] := ⟨hS.1, hS.2.1, fun l h => by cases h⟩
  exact K u1 v1 _ hR1 hO hP hD hS
set_option maxHeartbeats 1000000 in
theorem lc_fromb (hx : p.tables.exec = Jvm.exec) (hb : c.code = code) (hml : c.maxLocals = 4) (hown : s.vm.findClass RL = some m.cls) (hts : ∀ w ∈ wsL_law, w.before #[Value.ref b] s = true) (hX : va_X b L xs s s.heap) (hbl : b < s.heap.size) (hE : kE D cy sa (l_A s) s s.heap) (hi : i + 5 ≤ L) (hL : L ≤ 2560) (hcs : cells ≤ room_1.cells) (hss : slots ≤ room_1.slots) (hM : LM_fromb R) (ha : (xs ((nI i) + 1).toNatClampNeg) < 0 ∨ ¬ (xs ((nI i) + 1).toNatClampNeg) < 2) (hR : R u (i0.map Prod.snd) (i1.map Prod.snd) v) (hP : va_P D vwCl (LWd q q2 cy u v i0 i1) H) (hD : va_D (l_A s) (LWd q q2 cy u v i0 i1)) (hS : va_S (l_A s) s.heap H []) (hl : lv_has ls 4 [(0, .ref b), (1, .ref (q 0)), (2, .ref (q2 0)), (3, .int (nI i))]) (K : ∀ (u1 v1 : KS) (H : Heap), R u1 (i0.map Prod.snd) (i1.map Prod.snd) v1 → gO u1 = gO u → va_P D vwCl (LWd q q2 cy u1 v1 i0 i1) H → va_D (l_A s) (LWd q q2 cy u1 v1 i0 i1) → va_S (l_A s) s.heap H [] → W p l e room_1 s m #[Value.ref b] below meth c H [] cells slots Z (F0 m 1123 ls [])) : W p l e room_1 s m #[Value.ref b] below meth c H [] cells slots Z (F0 m 1040 ls []) := by
  obtain ⟨r, u1, v1, e1, e2, hR1, hO⟩ := hM u _ _ v (xs ((nI i) + 1).toNatClampNeg) ha hR
  have hP : va_P D vwCl (WX q cy u ++ (IW cy i0 ++ (IW cy i1 ++ WM q2 cy v))) H := hP
  have hD : va_D (l_A s) (WX q cy u ++ (IW cy i0 ++ (IW cy i1 ++ WM q2 cy v))) := hD
  have hA : ∀ x : Nat, s.heap.size ≤ x → l_A s x := fun x h => h
  have hbA : ¬ l_A s b := Nat.not_le.mpr hbl
  refine lv_aload_n hx hb dL_law_1040 rfl (lv_at hl 1 rfl) ?_
  refine lv_aload_n hx hb dL_law_1041 rfl (lv_at hl 0 rfl) ?_
  refine lv_iload_n hx hb dL_law_1042 rfl (lv_at hl 3 rfl) ?_
  refine lv_iconst (v := 1) hx hb dL_law_1043 (by decide) ?_
  refine lv_iadd hx hb dL_law_1044 ?_
  refine va_sld hx hb hX hbl hbA hS (l_in (k := 1) hi hL (by decide)) dL_law_1045 ?_
  refine k_goi (va_runV (As := [.int (xs ((nI i) + 1).toNatClampNeg)]) (rest := []) ⟨hx, hb, hml, hown, hts⟩ (zX5_from_b l D cy sa q (IW cy i0 ++ (IW cy i1 ++ WM q2 cy v)) H.size u (xs ((nI i) + 1).toNatClampNeg) (r, u1) ha e1) (cwV 1 hts (gB_V wB861 wB862 wB863 wB2 wB864) rfl rfl rfl (by decide +kernel) ⟨Nat.le_of_ble_eq_true rfl, Nat.le_of_ble_eq_true rfl⟩) ⟨kP.blind, k_recv hE hP (ci := 5) (q0 := 0) rfl rfl, k_pre hP hD hS hE hA⟩ rfl rfl hl.1 rfl (lv_room (Nat.le_of_ble_eq_true rfl)) dL_law_1046 ⟨hcs, hss⟩) hD hS hA (fun H locs hP hD hS => ?_)
  have hP : va_P D vwCl (WX q cy u1 ++ (IW cy i0 ++ (IW cy i1 ++ WM q2 cy v))) H := hP
  have hD : va_D (l_A s) (WX q cy u1 ++ (IW cy i0 ++ (IW cy i1 ++ WM q2 cy v))) := hD
  have hP := l_toP hP
  have hD := l_toD hD
  refine lv_aload_n hx hb dL_law_1049 rfl (lv_at hl 2 rfl) ?_
  refine lv_aload_n hx hb dL_law_1050 rfl (lv_at hl 0 rfl) ?_
  refine lv_iload_n hx hb dL_law_1051 rfl (lv_at hl 3 rfl) ?_
  refine lv_iconst (v := 1) hx hb dL_law_1052 (by decide) ?_
  refine lv_iadd hx hb dL_law_1053 ?_
  refine va_sld hx hb hX hbl hbA hS (l_in (k := 1) hi hL (by decide)) dL_law_1054 ?_
  refine k_goi (va_runV (As := [.int (xs ((nI i) + 1).toNatClampNeg)]) (rest := [.int r]) ⟨hx, hb, hml, hown, hts⟩ (zX6_from l D cy sa q2 (WX q cy u1 ++ (IW cy i0 ++ IW cy i1)) H.size v (xs ((nI i) + 1).toNatClampNeg) (r, v1) e2) (cwV 1 hts (gB_V wB865 wB866 wB867 wB5 wB868) rfl rfl rfl (by decide +kernel) ⟨Nat.le_of_ble_eq_true rfl, Nat.le_of_ble_eq_true rfl⟩) ⟨kP.blind, k_recv hE hP (ci := 6) (q0 := 0) rfl rfl, k_pre hP hD hS hE hA⟩ rfl rfl hl.1 rfl (lv_room (Nat.le_of_ble_eq_true rfl)) dL_law_1055 ⟨hcs, hss⟩) hD hS hA (fun H locs hP hD hS => ?_)
  have hP : va_P D vwCl (WM q2 cy v1 ++ (WX q cy u1 ++ (IW cy i0 ++ IW cy i1))) H := hP
  have hD : va_D (l_A s) (WM q2 cy v1 ++ (WX q cy u1 ++ (IW cy i0 ++ IW cy i1))) := hD
  have hP := l_ofP hP
  have hD := l_ofD hD
  refine lv_icmp_eq (tgt := 1123) hx hb dL_law_1058 (by decide) (fun c9 => ?_) (fun c9 => absurd rfl c9)
  refine va_forget hS.2.2 ?_
  have hS : va_S (l_A s) s.heap H [] := ⟨hS.1, hS.2.1, fun l h => by cases h⟩
  exact K u1 v1 _ hR1 hO hP hD hS
set_option maxHeartbeats 1000000 in
theorem lc_fromn0 (hx : p.tables.exec = Jvm.exec) (hb : c.code = code) (hml : c.maxLocals = 4) (hown : s.vm.findClass RL = some m.cls) (hts : ∀ w ∈ wsL_law, w.before #[Value.ref b] s = true) (hX : va_X b L xs s s.heap) (hbl : b < s.heap.size) (hE : kE D cy sa (l_A s) s s.heap) (hi : i + 5 ≤ L) (hL : L ≤ 2560) (hcs : cells ≤ room_1.cells) (hss : slots ≤ room_1.slots) (hM : LM_fromn0 R) (ha : (xs ((nI i) + 1).toNatClampNeg) = 0) (hI : IM u none i1) (hR : R u none (i1.map Prod.snd) v) (hP : va_P D vwCl (LWd q q2 cy u v none i1) H) (hD : va_D (l_A s) (LWd q q2 cy u v none i1)) (hS : va_S (l_A s) s.heap H []) (hl : lv_has ls 4 [(0, .ref b), (1, .ref (q 0)), (2, .ref (q2 0)), (3, .int (nI i))]) (K : ∀ (u1 v1 : KS) (H : Heap), R u1 none (i1.map Prod.snd) v1 → gO u1 = gO u → va_P D vwCl (LWd q q2 cy u1 v1 none i1) H → va_D (l_A s) (LWd q q2 cy u1 v1 none i1) → va_S (l_A s) s.heap H [] → W p l e room_1 s m #[Value.ref b] below meth c H [] cells slots Z (F0 m 1123 ls [])) : W p l e room_1 s m #[Value.ref b] below meth c H [] cells slots Z (F0 m 1040 ls []) := by
  obtain ⟨r, u1, v1, e1, e2, hR1, hO⟩ := hM u _ v hR
  have e2 : mX6_from v (xs ((nI i) + 1).toNatClampNeg) = some (r, v1) := by rw [ha]; exact e2
  have hP : va_P D vwCl (WX q cy u ++ (IW cy none ++ (IW cy i1 ++ WM q2 cy v))) H := hP
  have hD : va_D (l_A s) (WX q cy u ++ (IW cy none ++ (IW cy i1 ++ WM q2 cy v))) := hD
  have hA : ∀ x : Nat, s.heap.size ≤ x → l_A s x := fun x h => h
  have hbA : ¬ l_A s b := Nat.not_le.mpr hbl
  refine lv_aload_n hx hb dL_law_1040 rfl (lv_at hl 1 rfl) ?_
  refine lv_aload_n hx hb dL_law_1041 rfl (lv_at hl 0 rfl) ?_
  refine lv_iload_n hx hb dL_law_1042 rfl (lv_at hl 3 rfl) ?_
  refine lv_iconst (v := 1) hx hb dL_law_1043 (by decide) ?_
  refine lv_iadd hx hb dL_law_1044 ?_
  refine va_sld hx hb hX hbl hbA hS (l_in (k := 1) hi hL (by decide)) dL_law_1045 ?_
  refine k_goi (va_runV (As := [.int (xs ((nI i) + 1).toNatClampNeg)]) (rest := []) ⟨hx, hb, hml, hown, hts⟩ (zX5_from_n l D cy sa q (IW cy none ++ (IW cy i1 ++ WM q2 cy v)) H.size u (xs ((nI i) + 1).toNatClampNeg) (r, u1) (by rw [ha]; decide) (by rw [ha]; decide) (by rw [ha]; decide) (by rw [ha]; exact hI.1) e1) (cwV 1 hts (gB_V wB861 wB862 wB863 wB2 wB864) rfl rfl rfl (by decide +kernel) ⟨Nat.le_of_ble_eq_true rfl, Nat.le_of_ble_eq_true rfl⟩) ⟨kP.blind, k_recv hE hP (ci := 5) (q0 := 0) rfl rfl, k_pre hP hD hS hE hA⟩ rfl rfl hl.1 rfl (lv_room (Nat.le_of_ble_eq_true rfl)) dL_law_1046 ⟨hcs, hss⟩) hD hS hA (fun H locs hP hD hS => ?_)
  have hP : va_P D vwCl (WX q cy u1 ++ (IW cy none ++ (IW cy i1 ++ WM q2 cy v))) H := hP
  have hD : va_D (l_A s) (WX q cy u1 ++ (IW cy none ++ (IW cy i1 ++ WM q2 cy v))) := hD
  have hP := l_toP hP
  have hD := l_toD hD
  refine lv_aload_n hx hb dL_law_1049 rfl (lv_at hl 2 rfl) ?_
  refine lv_aload_n hx hb dL_law_1050 rfl (lv_at hl 0 rfl) ?_
  refine lv_iload_n hx hb dL_law_1051 rfl (lv_at hl 3 rfl) ?_
  refine lv_iconst (v := 1) hx hb dL_law_1052 (by decide) ?_
  refine lv_iadd hx hb dL_law_1053 ?_
  refine va_sld hx hb hX hbl hbA hS (l_in (k := 1) hi hL (by decide)) dL_law_1054 ?_
  refine k_goi (va_runV (As := [.int (xs ((nI i) + 1).toNatClampNeg)]) (rest := [.int r]) ⟨hx, hb, hml, hown, hts⟩ (zX6_from l D cy sa q2 (WX q cy u1 ++ (IW cy none ++ IW cy i1)) H.size v (xs ((nI i) + 1).toNatClampNeg) (r, v1) e2) (cwV 1 hts (gB_V wB865 wB866 wB867 wB5 wB868) rfl rfl rfl (by decide +kernel) ⟨Nat.le_of_ble_eq_true rfl, Nat.le_of_ble_eq_true rfl⟩) ⟨kP.blind, k_recv hE hP (ci := 6) (q0 := 0) rfl rfl, k_pre hP hD hS hE hA⟩ rfl rfl hl.1 rfl (lv_room (Nat.le_of_ble_eq_true rfl)) dL_law_1055 ⟨hcs, hss⟩) hD hS hA (fun H locs hP hD hS => ?_)
  have hP : va_P D vwCl (WM q2 cy v1 ++ (WX q cy u1 ++ (IW cy none ++ IW cy i1))) H := hP
  have hD : va_D (l_A s) (WM q2 cy v1 ++ (WX q cy u1 ++ (IW cy none ++ IW cy i1))) := hD
  have hP := l_ofP hP
  have hD := l_ofD hD
  refine lv_icmp_eq (tgt := 1123) hx hb dL_law_1058 (by decide) (fun c9 => ?_) (fun c9 => absurd rfl c9)
  refine va_forget hS.2.2 ?_
  have hS : va_S (l_A s) s.heap H [] := ⟨hS.1, hS.2.1, fun l h => by cases h⟩
  exact K u1 v1 _ hR1 hO hP hD hS
set_option maxHeartbeats 1000000 in
theorem lc_fromn1 (hx : p.tables.exec = Jvm.exec) (hb : c.code = code) (hml : c.maxLocals = 4) (hown : s.vm.findClass RL = some m.cls) (hts : ∀ w ∈ wsL_law, w.before #[Value.ref b] s = true) (hX : va_X b L xs s s.heap) (hbl : b < s.heap.size) (hE : kE D cy sa (l_A s) s s.heap) (hi : i + 5 ≤ L) (hL : L ≤ 2560) (hcs : cells ≤ room_1.cells) (hss : slots ≤ room_1.slots) (hM : LM_fromn1 R) (ha : (xs ((nI i) + 1).toNatClampNeg) = 1) (hI : IM u i0 none) (hR : R u (i0.map Prod.snd) none v) (hP : va_P D vwCl (LWd q q2 cy u v i0 none) H) (hD : va_D (l_A s) (LWd q q2 cy u v i0 none)) (hS : va_S (l_A s) s.heap H []) (hl : lv_has ls 4 [(0, .ref b), (1, .ref (q 0)), (2, .ref (q2 0)), (3, .int (nI i))]) (K : ∀ (u1 v1 : KS) (H : Heap), R u1 (i0.map Prod.snd) none v1 → gO u1 = gO u → va_P D vwCl (LWd q q2 cy u1 v1 i0 none) H → va_D (l_A s) (LWd q q2 cy u1 v1 i0 none) → va_S (l_A s) s.heap H [] → W p l e room_1 s m #[Value.ref b] below meth c H [] cells slots Z (F0 m 1123 ls [])) : W p l e room_1 s m #[Value.ref b] below meth c H [] cells slots Z (F0 m 1040 ls []) := by
  obtain ⟨r, u1, v1, e1, e2, hR1, hO⟩ := hM u _ v hR
  have e2 : mX6_from v (xs ((nI i) + 1).toNatClampNeg) = some (r, v1) := by rw [ha]; exact e2
  have hP : va_P D vwCl (WX q cy u ++ (IW cy i0 ++ (IW cy none ++ WM q2 cy v))) H := hP
  have hD : va_D (l_A s) (WX q cy u ++ (IW cy i0 ++ (IW cy none ++ WM q2 cy v))) := hD
  have hA : ∀ x : Nat, s.heap.size ≤ x → l_A s x := fun x h => h
  have hbA : ¬ l_A s b := Nat.not_le.mpr hbl
  refine lv_aload_n hx hb dL_law_1040 rfl (lv_at hl 1 rfl) ?_
  refine lv_aload_n hx hb dL_law_1041 rfl (lv_at hl 0 rfl) ?_
  refine lv_iload_n hx hb dL_law_1042 rfl (lv_at hl 3 rfl) ?_
  refine lv_iconst (v := 1) hx hb dL_law_1043 (by decide) ?_
  refine lv_iadd hx hb dL_law_1044 ?_
  refine va_sld hx hb hX hbl hbA hS (l_in (k := 1) hi hL (by decide)) dL_law_1045 ?_
  refine k_goi (va_runV (As := [.int (xs ((nI i) + 1).toNatClampNeg)]) (rest := []) ⟨hx, hb, hml, hown, hts⟩ (zX5_from_n l D cy sa q (IW cy i0 ++ (IW cy none ++ WM q2 cy v)) H.size u (xs ((nI i) + 1).toNatClampNeg) (r, u1) (by rw [ha]; decide) (by rw [ha]; decide) (by rw [ha]; decide) (by rw [ha]; exact hI.2) e1) (cwV 1 hts (gB_V wB861 wB862 wB863 wB2 wB864) rfl rfl rfl (by decide +kernel) ⟨Nat.le_of_ble_eq_true rfl, Nat.le_of_ble_eq_true rfl⟩) ⟨kP.blind, k_recv hE hP (ci := 5) (q0 := 0) rfl rfl, k_pre hP hD hS hE hA⟩ rfl rfl hl.1 rfl (lv_room (Nat.le_of_ble_eq_true rfl)) dL_law_1046 ⟨hcs, hss⟩) hD hS hA (fun H locs hP hD hS => ?_)
  have hP : va_P D vwCl (WX q cy u1 ++ (IW cy i0 ++ (IW cy none ++ WM q2 cy v))) H := hP
  have hD : va_D (l_A s) (WX q cy u1 ++ (IW cy i0 ++ (IW cy none ++ WM q2 cy v))) := hD
  have hP := l_toP hP
  have hD := l_toD hD
  refine lv_aload_n hx hb dL_law_1049 rfl (lv_at hl 2 rfl) ?_
  refine lv_aload_n hx hb dL_law_1050 rfl (lv_at hl 0 rfl) ?_
  refine lv_iload_n hx hb dL_law_1051 rfl (lv_at hl 3 rfl) ?_
  refine lv_iconst (v := 1) hx hb dL_law_1052 (by decide) ?_
  refine lv_iadd hx hb dL_law_1053 ?_
  refine va_sld hx hb hX hbl hbA hS (l_in (k := 1) hi hL (by decide)) dL_law_1054 ?_
  refine k_goi (va_runV (As := [.int (xs ((nI i) + 1).toNatClampNeg)]) (rest := [.int r]) ⟨hx, hb, hml, hown, hts⟩ (zX6_from l D cy sa q2 (WX q cy u1 ++ (IW cy i0 ++ IW cy none)) H.size v (xs ((nI i) + 1).toNatClampNeg) (r, v1) e2) (cwV 1 hts (gB_V wB865 wB866 wB867 wB5 wB868) rfl rfl rfl (by decide +kernel) ⟨Nat.le_of_ble_eq_true rfl, Nat.le_of_ble_eq_true rfl⟩) ⟨kP.blind, k_recv hE hP (ci := 6) (q0 := 0) rfl rfl, k_pre hP hD hS hE hA⟩ rfl rfl hl.1 rfl (lv_room (Nat.le_of_ble_eq_true rfl)) dL_law_1055 ⟨hcs, hss⟩) hD hS hA (fun H locs hP hD hS => ?_)
  have hP : va_P D vwCl (WM q2 cy v1 ++ (WX q cy u1 ++ (IW cy i0 ++ IW cy none))) H := hP
  have hD : va_D (l_A s) (WM q2 cy v1 ++ (WX q cy u1 ++ (IW cy i0 ++ IW cy none))) := hD
  have hP := l_ofP hP
  have hD := l_ofD hD
  refine lv_icmp_eq (tgt := 1123) hx hb dL_law_1058 (by decide) (fun c9 => ?_) (fun c9 => absurd rfl c9)
  refine va_forget hS.2.2 ?_
  have hS : va_S (l_A s) s.heap H [] := ⟨hS.1, hS.2.1, fun l h => by cases h⟩
  exact K u1 v1 _ hR1 hO hP hD hS
set_option maxHeartbeats 1000000 in
theorem lc_froms0 {t : Nat → Nat} {k : KS} (hx : p.tables.exec = Jvm.exec) (hb : c.code = code) (hml : c.maxLocals = 4) (hown : s.vm.findClass RL = some m.cls) (hts : ∀ w ∈ wsL_law, w.before #[Value.ref b] s = true) (hX : va_X b L xs s s.heap) (hbl : b < s.heap.size) (hE : kE D cy sa (l_A s) s s.heap) (hi : i + 5 ≤ L) (hL : L ≤ 2560) (hcs : cells ≤ room_1.cells) (hss : slots ≤ room_1.slots) (hM : LM_froms0 R) (ha : (xs ((nI i) + 1).toNatClampNeg) = 0) (hI : IM u (some (t, k)) i1) (hR : R u (some k) (i1.map Prod.snd) v) (hP : va_P D vwCl (LWd q q2 cy u v (some (t, k)) i1) H) (hD : va_D (l_A s) (LWd q q2 cy u v (some (t, k)) i1)) (hS : va_S (l_A s) s.heap H []) (hl : lv_has ls 4 [(0, .ref b), (1, .ref (q 0)), (2, .ref (q2 0)), (3, .int (nI i))]) (K : ∀ (u1 v1 : KS) (H : Heap), R u1 (some k) (i1.map Prod.snd) v1 → gO u1 = gO u → va_P D vwCl (LWd q q2 cy u1 v1 (some (t, k)) i1) H → va_D (l_A s) (LWd q q2 cy u1 v1 (some (t, k)) i1) → va_S (l_A s) s.heap H [] → W p l e room_1 s m #[Value.ref b] below meth c H [] cells slots Z (F0 m 1123 ls [])) : W p l e room_1 s m #[Value.ref b] below meth c H [] cells slots Z (F0 m 1040 ls []) := by
  obtain ⟨r, u1, v1, e1, e2, hR1, hO⟩ := hM u k _ v hR
  have e2 : mX6_from v (xs ((nI i) + 1).toNatClampNeg) = some (r, v1) := by rw [ha]; exact e2
  have hP : va_P D vwCl (WX q cy u ++ (IW cy (some (t, k)) ++ (IW cy i1 ++ WM q2 cy v))) H := hP
  have hD : va_D (l_A s) (WX q cy u ++ (IW cy (some (t, k)) ++ (IW cy i1 ++ WM q2 cy v))) := hD
  have hP : va_P D vwCl (WX q cy u ++ (Wkept t cy k ++ (IW cy i1 ++ WM q2 cy v))) H := hP
  have hD : va_D (l_A s) (WX q cy u ++ (Wkept t cy k ++ (IW cy i1 ++ WM q2 cy v))) := hD
  have hA : ∀ x : Nat, s.heap.size ≤ x → l_A s x := fun x h => h
  have hbA : ¬ l_A s b := Nat.not_le.mpr hbl
  refine lv_aload_n hx hb dL_law_1040 rfl (lv_at hl 1 rfl) ?_
  refine lv_aload_n hx hb dL_law_1041 rfl (lv_at hl 0 rfl) ?_
  refine lv_iload_n hx hb dL_law_1042 rfl (lv_at hl 3 rfl) ?_
  refine lv_iconst (v := 1) hx hb dL_law_1043 (by decide) ?_
  refine lv_iadd hx hb dL_law_1044 ?_
  refine va_sld hx hb hX hbl hbA hS (l_in (k := 1) hi hL (by decide)) dL_law_1045 ?_
  refine k_goi (va_runV (As := [.int (xs ((nI i) + 1).toNatClampNeg)]) (rest := []) ⟨hx, hb, hml, hown, hts⟩ (zX5_from_s l D cy sa q (IW cy i1 ++ WM q2 cy v) H.size u t k (xs ((nI i) + 1).toNatClampNeg) (r, u1) (by rw [ha]; decide) (by rw [ha]; decide) (by rw [ha]; decide) (by rw [ha]; exact hI.1) e1) (cwV 1 hts (gB_V wB861 wB862 wB863 wB2 wB864) rfl rfl rfl (by decide +kernel) ⟨Nat.le_of_ble_eq_true rfl, Nat.le_of_ble_eq_true rfl⟩) ⟨kP.blind, k_recv hE hP (ci := 5) (q0 := 0) rfl rfl, k_pre hP hD hS hE hA⟩ rfl rfl hl.1 rfl (lv_room (Nat.le_of_ble_eq_true rfl)) dL_law_1046 ⟨hcs, hss⟩) hD hS hA (fun H locs hP hD hS => ?_)
  have hP : va_P D vwCl (WX q cy u1 ++ (Wkept t cy k ++ (IW cy i1 ++ WM q2 cy v))) H := hP
  have hD : va_D (l_A s) (WX q cy u1 ++ (Wkept t cy k ++ (IW cy i1 ++ WM q2 cy v))) := hD
  have hP : va_P D vwCl (WX q cy u1 ++ (IW cy (some (t, k)) ++ (IW cy i1 ++ WM q2 cy v))) H := hP
  have hD : va_D (l_A s) (WX q cy u1 ++ (IW cy (some (t, k)) ++ (IW cy i1 ++ WM q2 cy v))) := hD
  have hP := l_toP hP
  have hD := l_toD hD
  refine lv_aload_n hx hb dL_law_1049 rfl (lv_at hl 2 rfl) ?_
  refine lv_aload_n hx hb dL_law_1050 rfl (lv_at hl 0 rfl) ?_
  refine lv_iload_n hx hb dL_law_1051 rfl (lv_at hl 3 rfl) ?_
  refine lv_iconst (v := 1) hx hb dL_law_1052 (by decide) ?_
  refine lv_iadd hx hb dL_law_1053 ?_
  refine va_sld hx hb hX hbl hbA hS (l_in (k := 1) hi hL (by decide)) dL_law_1054 ?_
  refine k_goi (va_runV (As := [.int (xs ((nI i) + 1).toNatClampNeg)]) (rest := [.int r]) ⟨hx, hb, hml, hown, hts⟩ (zX6_from l D cy sa q2 (WX q cy u1 ++ (IW cy (some (t, k)) ++ IW cy i1)) H.size v (xs ((nI i) + 1).toNatClampNeg) (r, v1) e2) (cwV 1 hts (gB_V wB865 wB866 wB867 wB5 wB868) rfl rfl rfl (by decide +kernel) ⟨Nat.le_of_ble_eq_true rfl, Nat.le_of_ble_eq_true rfl⟩) ⟨kP.blind, k_recv hE hP (ci := 6) (q0 := 0) rfl rfl, k_pre hP hD hS hE hA⟩ rfl rfl hl.1 rfl (lv_room (Nat.le_of_ble_eq_true rfl)) dL_law_1055 ⟨hcs, hss⟩) hD hS hA (fun H locs hP hD hS => ?_)
  have hP : va_P D vwCl (WM q2 cy v1 ++ (WX q cy u1 ++ (IW cy (some (t, k)) ++ IW cy i1))) H := hP
  have hD : va_D (l_A s) (WM q2 cy v1 ++ (WX q cy u1 ++ (IW cy (some (t, k)) ++ IW cy i1))) := hD
  have hP := l_ofP hP
  have hD := l_ofD hD
  refine lv_icmp_eq (tgt := 1123) hx hb dL_law_1058 (by decide) (fun c9 => ?_) (fun c9 => absurd rfl c9)
  refine va_forget hS.2.2 ?_
  have hS : va_S (l_A s) s.heap H [] := ⟨hS.1, hS.2.1, fun l h => by cases h⟩
  exact K u1 v1 _ hR1 hO hP hD hS
set_option maxHeartbeats 1000000 in
theorem lc_froms1 {t : Nat → Nat} {k : KS} (hx : p.tables.exec = Jvm.exec) (hb : c.code = code) (hml : c.maxLocals = 4) (hown : s.vm.findClass RL = some m.cls) (hts : ∀ w ∈ wsL_law, w.before #[Value.ref b] s = true) (hX : va_X b L xs s s.heap) (hbl : b < s.heap.size) (hE : kE D cy sa (l_A s) s s.heap) (hi : i + 5 ≤ L) (hL : L ≤ 2560) (hcs : cells ≤ room_1.cells) (hss : slots ≤ room_1.slots) (hM : LM_froms1 R) (ha : (xs ((nI i) + 1).toNatClampNeg) = 1) (hI : IM u i0 (some (t, k))) (hR : R u (i0.map Prod.snd) (some k) v) (hP : va_P D vwCl (LWd q q2 cy u v i0 (some (t, k))) H) (hD : va_D (l_A s) (LWd q q2 cy u v i0 (some (t, k)))) (hS : va_S (l_A s) s.heap H []) (hl : lv_has ls 4 [(0, .ref b), (1, .ref (q 0)), (2, .ref (q2 0)), (3, .int (nI i))]) (K : ∀ (u1 v1 : KS) (H : Heap), R u1 (i0.map Prod.snd) (some k) v1 → gO u1 = gO u → va_P D vwCl (LWd q q2 cy u1 v1 i0 (some (t, k))) H → va_D (l_A s) (LWd q q2 cy u1 v1 i0 (some (t, k))) → va_S (l_A s) s.heap H [] → W p l e room_1 s m #[Value.ref b] below meth c H [] cells slots Z (F0 m 1123 ls [])) : W p l e room_1 s m #[Value.ref b] below meth c H [] cells slots Z (F0 m 1040 ls []) := by
  obtain ⟨r, u1, v1, e1, e2, hR1, hO⟩ := hM u _ k v hR
  have e2 : mX6_from v (xs ((nI i) + 1).toNatClampNeg) = some (r, v1) := by rw [ha]; exact e2
  have hP : va_P D vwCl (WX q cy u ++ (IW cy i0 ++ (IW cy (some (t, k)) ++ WM q2 cy v))) H := hP
  have hD : va_D (l_A s) (WX q cy u ++ (IW cy i0 ++ (IW cy (some (t, k)) ++ WM q2 cy v))) := hD
  have hP := l_mP hP
  have hD := l_mD hD
  have hP : va_P D vwCl (WX q cy u ++ (Wkept t cy k ++ (IW cy i0 ++ WM q2 cy v))) H := hP
  have hD : va_D (l_A s) (WX q cy u ++ (Wkept t cy k ++ (IW cy i0 ++ WM q2 cy v))) := hD
  have hA : ∀ x : Nat, s.heap.size ≤ x → l_A s x := fun x h => h
  have hbA : ¬ l_A s b := Nat.not_le.mpr hbl
  refine lv_aload_n hx hb dL_law_1040 rfl (lv_at hl 1 rfl) ?_
  refine lv_aload_n hx hb dL_law_1041 rfl (lv_at hl 0 rfl) ?_
  refine lv_iload_n hx hb dL_law_1042 rfl (lv_at hl 3 rfl) ?_
  refine lv_iconst (v := 1) hx hb dL_law_1043 (by decide) ?_
  refine lv_iadd hx hb dL_law_1044 ?_
  refine va_sld hx hb hX hbl hbA hS (l_in (k := 1) hi hL (by decide)) dL_law_1045 ?_
  refine k_goi (va_runV (As := [.int (xs ((nI i) + 1).toNatClampNeg)]) (rest := []) ⟨hx, hb, hml, hown, hts⟩ (zX5_from_s l D cy sa q (IW cy i0 ++ WM q2 cy v) H.size u t k (xs ((nI i) + 1).toNatClampNeg) (r, u1) (by rw [ha]; decide) (by rw [ha]; decide) (by rw [ha]; decide) (by rw [ha]; exact hI.2) e1) (cwV 1 hts (gB_V wB861 wB862 wB863 wB2 wB864) rfl rfl rfl (by decide +kernel) ⟨Nat.le_of_ble_eq_true rfl, Nat.le_of_ble_eq_true rfl⟩) ⟨kP.blind, k_recv hE hP (ci := 5) (q0 := 0) rfl rfl, k_pre hP hD hS hE hA⟩ rfl rfl hl.1 rfl (lv_room (Nat.le_of_ble_eq_true rfl)) dL_law_1046 ⟨hcs, hss⟩) hD hS hA (fun H locs hP hD hS => ?_)
  have hP : va_P D vwCl (WX q cy u1 ++ (Wkept t cy k ++ (IW cy i0 ++ WM q2 cy v))) H := hP
  have hD : va_D (l_A s) (WX q cy u1 ++ (Wkept t cy k ++ (IW cy i0 ++ WM q2 cy v))) := hD
  have hP := l_mP hP
  have hD := l_mD hD
  have hP : va_P D vwCl (WX q cy u1 ++ (IW cy i0 ++ (IW cy (some (t, k)) ++ WM q2 cy v))) H := hP
  have hD : va_D (l_A s) (WX q cy u1 ++ (IW cy i0 ++ (IW cy (some (t, k)) ++ WM q2 cy v))) := hD
  have hP := l_toP hP
  have hD := l_toD hD
  refine lv_aload_n hx hb dL_law_1049 rfl (lv_at hl 2 rfl) ?_
  refine lv_aload_n hx hb dL_law_1050 rfl (lv_at hl 0 rfl) ?_
  refine lv_iload_n hx hb dL_law_1051 rfl (lv_at hl 3 rfl) ?_
  refine lv_iconst (v := 1) hx hb dL_law_1052 (by decide) ?_
  refine lv_iadd hx hb dL_law_1053 ?_
  refine va_sld hx hb hX hbl hbA hS (l_in (k := 1) hi hL (by decide)) dL_law_1054 ?_
  refine k_goi (va_runV (As := [.int (xs ((nI i) + 1).toNatClampNeg)]) (rest := [.int r]) ⟨hx, hb, hml, hown, hts⟩ (zX6_from l D cy sa q2 (WX q cy u1 ++ (IW cy i0 ++ IW cy (some (t, k)))) H.size v (xs ((nI i) + 1).toNatClampNeg) (r, v1) e2) (cwV 1 hts (gB_V wB865 wB866 wB867 wB5 wB868) rfl rfl rfl (by decide +kernel) ⟨Nat.le_of_ble_eq_true rfl, Nat.le_of_ble_eq_true rfl⟩) ⟨kP.blind, k_recv hE hP (ci := 6) (q0 := 0) rfl rfl, k_pre hP hD hS hE hA⟩ rfl rfl hl.1 rfl (lv_room (Nat.le_of_ble_eq_true rfl)) dL_law_1055 ⟨hcs, hss⟩) hD hS hA (fun H locs hP hD hS => ?_)
  have hP : va_P D vwCl (WM q2 cy v1 ++ (WX q cy u1 ++ (IW cy i0 ++ IW cy (some (t, k))))) H := hP
  have hD : va_D (l_A s) (WM q2 cy v1 ++ (WX q cy u1 ++ (IW cy i0 ++ IW cy (some (t, k))))) := hD
  have hP := l_ofP hP
  have hD := l_ofD hD
  refine lv_icmp_eq (tgt := 1123) hx hb dL_law_1058 (by decide) (fun c9 => ?_) (fun c9 => absurd rfl c9)
  refine va_forget hS.2.2 ?_
  have hS : va_S (l_A s) s.heap H [] := ⟨hS.1, hS.2.1, fun l h => by cases h⟩
  exact K u1 v1 _ hR1 hO hP hD hS
set_option maxHeartbeats 1000000 in
theorem lc_images0 {t : Nat → Nat} {k : KS} (hx : p.tables.exec = Jvm.exec) (hb : c.code = code) (hml : c.maxLocals = 4) (hown : s.vm.findClass RL = some m.cls) (hts : ∀ w ∈ wsL_law, w.before #[Value.ref b] s = true) (hX : va_X b L xs s s.heap) (hbl : b < s.heap.size) (hE : kE D cy sa (l_A s) s s.heap) (hi : i + 5 ≤ L) (hL : L ≤ 2560) (hcs : cells ≤ room_1.cells) (hss : slots ≤ room_1.slots) (hM : LM_image0 R) (ha : (xs ((nI i) + 1).toNatClampNeg) = 0) (hI : IM u (some (t, k)) i1) (hR : R u (some k) (i1.map Prod.snd) v) (hP : va_P D vwCl (LWd q q2 cy u v (some (t, k)) i1) H) (hD : va_D (l_A s) (LWd q q2 cy u v (some (t, k)) i1)) (hS : va_S (l_A s) s.heap H []) (hl : lv_has ls 4 [(0, .ref b), (1, .ref (q 0)), (2, .ref (q2 0)), (3, .int (nI i))]) (K : ∀ (k2 : KS) (v1 : KS) (H : Heap), R u (some k2) (i1.map Prod.snd) v1 → va_P D vwCl (LWd q q2 cy u v1 (some (t, k2)) i1) H → va_D (l_A s) (LWd q q2 cy u v1 (some (t, k2)) i1) → va_S (l_A s) s.heap H [] → W p l e room_1 s m #[Value.ref b] below meth c H [] cells slots Z (F0 m 1123 ls [])) : W p l e room_1 s m #[Value.ref b] below meth c H [] cells slots Z (F0 m 1017 ls []) := by
  obtain ⟨k2, v1, e1, e2, hR1⟩ := hM u _ _ v hR
  obtain ⟨r, hr1⟩ : ∃ r : Int32, r = 1 := ⟨_, rfl⟩
  have e2 : mX6_image v (xs ((nI i) + 1).toNatClampNeg) = some (r, v1) := by rw [ha, hr1]; exact e2
  have hP : va_P D vwCl (WX q cy u ++ (IW cy (some (t, k)) ++ (IW cy i1 ++ WM q2 cy v))) H := hP
  have hD : va_D (l_A s) (WX q cy u ++ (IW cy (some (t, k)) ++ (IW cy i1 ++ WM q2 cy v))) := hD
  have hP : va_P D vwCl (WX q cy u ++ (Wkept t cy k ++ (IW cy i1 ++ WM q2 cy v))) H := hP
  have hD : va_D (l_A s) (WX q cy u ++ (Wkept t cy k ++ (IW cy i1 ++ WM q2 cy v))) := hD
  have hA : ∀ x : Nat, s.heap.size ≤ x → l_A s x := fun x h => h
  have hbA : ¬ l_A s b := Nat.not_le.mpr hbl
  refine lv_aload_n hx hb dL_law_1017 rfl (lv_at hl 1 rfl) ?_
  refine lv_aload_n hx hb dL_law_1018 rfl (lv_at hl 0 rfl) ?_
  refine lv_iload_n hx hb dL_law_1019 rfl (lv_at hl 3 rfl) ?_
  refine lv_iconst (v := 1) hx hb dL_law_1020 (by decide) ?_
  refine lv_iadd hx hb dL_law_1021 ?_
  refine va_sld hx hb hX hbl hbA hS (l_in (k := 1) hi hL (by decide)) dL_law_1022 ?_
  refine k_goi (va_runV (As := [.int (xs ((nI i) + 1).toNatClampNeg)]) (rest := []) ⟨hx, hb, hml, hown, hts⟩ (zX5_image_s l D cy sa q (IW cy i1 ++ WM q2 cy v) H.size u t k (xs ((nI i) + 1).toNatClampNeg) k2 (by rw [ha]; decide) (by rw [ha]; decide) (by rw [ha]; decide) (by rw [ha]; exact hI.1) e1) (cwV 1 hts (gB_V wB845 wB846 wB847 wB2 wB848) rfl rfl rfl (by decide +kernel) ⟨Nat.le_of_ble_eq_true rfl, Nat.le_of_ble_eq_true rfl⟩) ⟨kP.blind, k_recv hE hP (ci := 5) (q0 := 0) rfl rfl, k_pre hP hD hS hE hA⟩ rfl rfl hl.1 rfl (lv_room (Nat.le_of_ble_eq_true rfl)) dL_law_1023 ⟨hcs, hss⟩) hD hS hA (fun H locs hP hD hS => ?_)
  have hP : va_P D vwCl (WX q cy u ++ (Wkept t cy k2 ++ (IW cy i1 ++ WM q2 cy v))) H := hP
  have hD : va_D (l_A s) (WX q cy u ++ (Wkept t cy k2 ++ (IW cy i1 ++ WM q2 cy v))) := hD
  have hP : va_P D vwCl (WX q cy u ++ (IW cy (some (t, k2)) ++ (IW cy i1 ++ WM q2 cy v))) H := hP
  have hD : va_D (l_A s) (WX q cy u ++ (IW cy (some (t, k2)) ++ (IW cy i1 ++ WM q2 cy v))) := hD
  have hP := l_toP hP
  have hD := l_toD hD
  refine lv_aload_n hx hb dL_law_1026 rfl (lv_at hl 2 rfl) ?_
  refine lv_aload_n hx hb dL_law_1027 rfl (lv_at hl 0 rfl) ?_
  refine lv_iload_n hx hb dL_law_1028 rfl (lv_at hl 3 rfl) ?_
  refine lv_iconst (v := 1) hx hb dL_law_1029 (by decide) ?_
  refine lv_iadd hx hb dL_law_1030 ?_
  refine va_sld hx hb hX hbl hbA hS (l_in (k := 1) hi hL (by decide)) dL_law_1031 ?_
  refine k_goi (va_runV (As := [.int (xs ((nI i) + 1).toNatClampNeg)]) (rest := [.int 1]) ⟨hx, hb, hml, hown, hts⟩ (zX6_image l D cy sa q2 (WX q cy u ++ (IW cy (some (t, k2)) ++ IW cy i1)) H.size v (xs ((nI i) + 1).toNatClampNeg) (r, v1) e2) (cwV 1 hts (gB_V wB857 wB858 wB859 wB5 wB860) rfl rfl rfl (by decide +kernel) ⟨Nat.le_of_ble_eq_true rfl, Nat.le_of_ble_eq_true rfl⟩) ⟨kP.blind, k_recv hE hP (ci := 6) (q0 := 0) rfl rfl, k_pre hP hD hS hE hA⟩ rfl rfl hl.1 rfl (lv_room (Nat.le_of_ble_eq_true rfl)) dL_law_1032 ⟨hcs, hss⟩) hD hS hA (fun H locs hP hD hS => ?_)
  have hP : va_P D vwCl (WM q2 cy v1 ++ (WX q cy u ++ (IW cy (some (t, k2)) ++ IW cy i1))) H := hP
  have hD : va_D (l_A s) (WM q2 cy v1 ++ (WX q cy u ++ (IW cy (some (t, k2)) ++ IW cy i1))) := hD
  have hP := l_ofP hP
  have hD := l_ofD hD
  refine lv_icmp_eq (tgt := 1123) hx hb dL_law_1035 (by decide) (fun c9 => ?_) (fun c9 => absurd hr1.symm c9)
  refine va_forget hS.2.2 ?_
  have hS : va_S (l_A s) s.heap H [] := ⟨hS.1, hS.2.1, fun l h => by cases h⟩
  have hR2 := hR1 (gO u)
  rw [l_sO] at hR2
  exact K k2 v1 _ hR2 hP hD hS
set_option maxHeartbeats 1000000 in
theorem lc_images1 {t : Nat → Nat} {k : KS} (hx : p.tables.exec = Jvm.exec) (hb : c.code = code) (hml : c.maxLocals = 4) (hown : s.vm.findClass RL = some m.cls) (hts : ∀ w ∈ wsL_law, w.before #[Value.ref b] s = true) (hX : va_X b L xs s s.heap) (hbl : b < s.heap.size) (hE : kE D cy sa (l_A s) s s.heap) (hi : i + 5 ≤ L) (hL : L ≤ 2560) (hcs : cells ≤ room_1.cells) (hss : slots ≤ room_1.slots) (hM : LM_image1 R) (ha : (xs ((nI i) + 1).toNatClampNeg) = 1) (hI : IM u i0 (some (t, k))) (hR : R u (i0.map Prod.snd) (some k) v) (hP : va_P D vwCl (LWd q q2 cy u v i0 (some (t, k))) H) (hD : va_D (l_A s) (LWd q q2 cy u v i0 (some (t, k)))) (hS : va_S (l_A s) s.heap H []) (hl : lv_has ls 4 [(0, .ref b), (1, .ref (q 0)), (2, .ref (q2 0)), (3, .int (nI i))]) (K : ∀ (k2 : KS) (v1 : KS) (H : Heap), R u (i0.map Prod.snd) (some k2) v1 → va_P D vwCl (LWd q q2 cy u v1 i0 (some (t, k2))) H → va_D (l_A s) (LWd q q2 cy u v1 i0 (some (t, k2))) → va_S (l_A s) s.heap H [] → W p l e room_1 s m #[Value.ref b] below meth c H [] cells slots Z (F0 m 1123 ls [])) : W p l e room_1 s m #[Value.ref b] below meth c H [] cells slots Z (F0 m 1017 ls []) := by
  obtain ⟨k2, v1, e1, e2, hR1⟩ := hM u _ _ v hR
  obtain ⟨r, hr1⟩ : ∃ r : Int32, r = 1 := ⟨_, rfl⟩
  have e2 : mX6_image v (xs ((nI i) + 1).toNatClampNeg) = some (r, v1) := by rw [ha, hr1]; exact e2
  have hP : va_P D vwCl (WX q cy u ++ (IW cy i0 ++ (IW cy (some (t, k)) ++ WM q2 cy v))) H := hP
  have hD : va_D (l_A s) (WX q cy u ++ (IW cy i0 ++ (IW cy (some (t, k)) ++ WM q2 cy v))) := hD
  have hP := l_mP hP
  have hD := l_mD hD
  have hP : va_P D vwCl (WX q cy u ++ (Wkept t cy k ++ (IW cy i0 ++ WM q2 cy v))) H := hP
  have hD : va_D (l_A s) (WX q cy u ++ (Wkept t cy k ++ (IW cy i0 ++ WM q2 cy v))) := hD
  have hA : ∀ x : Nat, s.heap.size ≤ x → l_A s x := fun x h => h
  have hbA : ¬ l_A s b := Nat.not_le.mpr hbl
  refine lv_aload_n hx hb dL_law_1017 rfl (lv_at hl 1 rfl) ?_
  refine lv_aload_n hx hb dL_law_1018 rfl (lv_at hl 0 rfl) ?_
  refine lv_iload_n hx hb dL_law_1019 rfl (lv_at hl 3 rfl) ?_
  refine lv_iconst (v := 1) hx hb dL_law_1020 (by decide) ?_
  refine lv_iadd hx hb dL_law_1021 ?_
  refine va_sld hx hb hX hbl hbA hS (l_in (k := 1) hi hL (by decide)) dL_law_1022 ?_
  refine k_goi (va_runV (As := [.int (xs ((nI i) + 1).toNatClampNeg)]) (rest := []) ⟨hx, hb, hml, hown, hts⟩ (zX5_image_s l D cy sa q (IW cy i0 ++ WM q2 cy v) H.size u t k (xs ((nI i) + 1).toNatClampNeg) k2 (by rw [ha]; decide) (by rw [ha]; decide) (by rw [ha]; decide) (by rw [ha]; exact hI.2) e1) (cwV 1 hts (gB_V wB845 wB846 wB847 wB2 wB848) rfl rfl rfl (by decide +kernel) ⟨Nat.le_of_ble_eq_true rfl, Nat.le_of_ble_eq_true rfl⟩) ⟨kP.blind, k_recv hE hP (ci := 5) (q0 := 0) rfl rfl, k_pre hP hD hS hE hA⟩ rfl rfl hl.1 rfl (lv_room (Nat.le_of_ble_eq_true rfl)) dL_law_1023 ⟨hcs, hss⟩) hD hS hA (fun H locs hP hD hS => ?_)
  have hP : va_P D vwCl (WX q cy u ++ (Wkept t cy k2 ++ (IW cy i0 ++ WM q2 cy v))) H := hP
  have hD : va_D (l_A s) (WX q cy u ++ (Wkept t cy k2 ++ (IW cy i0 ++ WM q2 cy v))) := hD
  have hP := l_mP hP
  have hD := l_mD hD
  have hP : va_P D vwCl (WX q cy u ++ (IW cy i0 ++ (IW cy (some (t, k2)) ++ WM q2 cy v))) H := hP
  have hD : va_D (l_A s) (WX q cy u ++ (IW cy i0 ++ (IW cy (some (t, k2)) ++ WM q2 cy v))) := hD
  have hP := l_toP hP
  have hD := l_toD hD
  refine lv_aload_n hx hb dL_law_1026 rfl (lv_at hl 2 rfl) ?_
  refine lv_aload_n hx hb dL_law_1027 rfl (lv_at hl 0 rfl) ?_
  refine lv_iload_n hx hb dL_law_1028 rfl (lv_at hl 3 rfl) ?_
  refine lv_iconst (v := 1) hx hb dL_law_1029 (by decide) ?_
  refine lv_iadd hx hb dL_law_1030 ?_
  refine va_sld hx hb hX hbl hbA hS (l_in (k := 1) hi hL (by decide)) dL_law_1031 ?_
  refine k_goi (va_runV (As := [.int (xs ((nI i) + 1).toNatClampNeg)]) (rest := [.int 1]) ⟨hx, hb, hml, hown, hts⟩ (zX6_image l D cy sa q2 (WX q cy u ++ (IW cy i0 ++ IW cy (some (t, k2)))) H.size v (xs ((nI i) + 1).toNatClampNeg) (r, v1) e2) (cwV 1 hts (gB_V wB857 wB858 wB859 wB5 wB860) rfl rfl rfl (by decide +kernel) ⟨Nat.le_of_ble_eq_true rfl, Nat.le_of_ble_eq_true rfl⟩) ⟨kP.blind, k_recv hE hP (ci := 6) (q0 := 0) rfl rfl, k_pre hP hD hS hE hA⟩ rfl rfl hl.1 rfl (lv_room (Nat.le_of_ble_eq_true rfl)) dL_law_1032 ⟨hcs, hss⟩) hD hS hA (fun H locs hP hD hS => ?_)
  have hP : va_P D vwCl (WM q2 cy v1 ++ (WX q cy u ++ (IW cy i0 ++ IW cy (some (t, k2))))) H := hP
  have hD : va_D (l_A s) (WM q2 cy v1 ++ (WX q cy u ++ (IW cy i0 ++ IW cy (some (t, k2))))) := hD
  have hP := l_ofP hP
  have hD := l_ofD hD
  refine lv_icmp_eq (tgt := 1123) hx hb dL_law_1035 (by decide) (fun c9 => ?_) (fun c9 => absurd hr1.symm c9)
  refine va_forget hS.2.2 ?_
  have hS : va_S (l_A s) s.heap H [] := ⟨hS.1, hS.2.1, fun l h => by cases h⟩
  have hR2 := hR1 (gO u)
  rw [l_sO] at hR2
  exact K k2 v1 _ hR2 hP hD hS
set_option maxHeartbeats 1000000 in
theorem lc_imagen0 (hx : p.tables.exec = Jvm.exec) (hb : c.code = code) (hml : c.maxLocals = 4) (hown : s.vm.findClass RL = some m.cls) (hts : ∀ w ∈ wsL_law, w.before #[Value.ref b] s = true) (hX : va_X b L xs s s.heap) (hbl : b < s.heap.size) (hE : kE D cy sa (l_A s) s s.heap) (hi : i + 5 ≤ L) (hL : L ≤ 2560) (hcs7 : cells + 7 ≤ room_1.cells) (hss7 : slots + 194 ≤ room_1.slots) (hM : LM_image0 R) (ha : (xs ((nI i) + 1).toNatClampNeg) = 0) (hI : IM u none i1) (hR : R u none (i1.map Prod.snd) v) (hP : va_P D vwCl (LWd q q2 cy u v none i1) H) (hD : va_D (l_A s) (LWd q q2 cy u v none i1)) (hS : va_S (l_A s) s.heap H []) (hl : lv_has ls 4 [(0, .ref b), (1, .ref (q 0)), (2, .ref (q2 0)), (3, .int (nI i))]) (K : ∀ (u1 : KS) (t : Nat → Nat) (k2 v1 : KS) (H : Heap), R u1 (some k2) (i1.map Prod.snd) v1 → IM u1 (some (t, k2)) i1 → va_P D vwCl (LWd q q2 cy u1 v1 (some (t, k2)) i1) H → va_D (l_A s) (LWd q q2 cy u1 v1 (some (t, k2)) i1) → va_S (l_A s) s.heap H [] → W p l e room_1 s m #[Value.ref b] below meth c H [] (cells + 7) (slots + 194) Z (F0 m 1123 ls [])) : W p l e room_1 s m #[Value.ref b] below meth c H [] cells slots Z (F0 m 1017 ls []) := by
  obtain ⟨k2, v1, e1, e2, hR1⟩ := hM u _ _ v hR
  obtain ⟨r, hr1⟩ : ∃ r : Int32, r = 1 := ⟨_, rfl⟩
  have e2 : mX6_image v (xs ((nI i) + 1).toNatClampNeg) = some (r, v1) := by rw [ha, hr1]; exact e2
  have hP : va_P D vwCl (WX q cy u ++ (IW cy none ++ (IW cy i1 ++ WM q2 cy v))) H := hP
  have hD : va_D (l_A s) (WX q cy u ++ (IW cy none ++ (IW cy i1 ++ WM q2 cy v))) := hD
  have hA : ∀ x : Nat, s.heap.size ≤ x → l_A s x := fun x h => h
  have hbA : ¬ l_A s b := Nat.not_le.mpr hbl
  refine lv_aload_n hx hb dL_law_1017 rfl (lv_at hl 1 rfl) ?_
  refine lv_aload_n hx hb dL_law_1018 rfl (lv_at hl 0 rfl) ?_
  refine lv_iload_n hx hb dL_law_1019 rfl (lv_at hl 3 rfl) ?_
  refine lv_iconst (v := 1) hx hb dL_law_1020 (by decide) ?_
  refine lv_iadd hx hb dL_law_1021 ?_
  refine va_sld hx hb hX hbl hbA hS (l_in (k := 1) hi hL (by decide)) dL_law_1022 ?_
  refine k_gol2 (va_runV (As := [.int (xs ((nI i) + 1).toNatClampNeg)]) (rest := []) ⟨hx, hb, hml, hown, hts⟩ (zX5_image_n l D cy sa q (IW cy none ++ (IW cy i1 ++ WM q2 cy v)) H.size u (xs ((nI i) + 1).toNatClampNeg) k2 (by rw [ha]; decide) (by rw [ha]; decide) (by rw [ha]; decide) (by rw [ha]; exact hI.1) e1) (cwV 1 hts (gB_V wB845 wB846 wB847 wB2 wB848) rfl rfl rfl (by decide +kernel) ⟨Nat.le_of_ble_eq_true rfl, Nat.le_of_ble_eq_true rfl⟩) ⟨kP.blind, k_recv hE hP (ci := 5) (q0 := 0) rfl rfl, k_pre hP hD hS hE hA⟩ rfl rfl hl.1 rfl (lv_room (Nat.le_of_ble_eq_true rfl)) dL_law_1023 ⟨hcs7, hss7⟩) hD hS hA (fun t H locs hP hD hS => ?_)
  obtain ⟨u1, hu1⟩ : ∃ u1 : KS, u1 = sO u (va_up (gO u) (xs ((nI i) + 1).toNatClampNeg).toNatClampNeg (some (t 0))) := ⟨_, rfl⟩
  have hP : va_P D vwCl (WX q cy u1 ++ (Wkept t cy k2 ++ (IW cy none ++ (IW cy i1 ++ WM q2 cy v)))) H := by rw [hu1]; exact hP
  have hD : va_D (l_A s) (WX q cy u1 ++ (Wkept t cy k2 ++ (IW cy none ++ (IW cy i1 ++ WM q2 cy v)))) := by rw [hu1]; exact hD
  have hP : va_P D vwCl (WX q cy u1 ++ (IW cy (some (t, k2)) ++ (IW cy i1 ++ WM q2 cy v))) H := hP
  have hD : va_D (l_A s) (WX q cy u1 ++ (IW cy (some (t, k2)) ++ (IW cy i1 ++ WM q2 cy v))) := hD
  have hP := l_toP hP
  have hD := l_toD hD
  refine lv_aload_n hx hb dL_law_1026 rfl (lv_at hl 2 rfl) ?_
  refine lv_aload_n hx hb dL_law_1027 rfl (lv_at hl 0 rfl) ?_
  refine lv_iload_n hx hb dL_law_1028 rfl (lv_at hl 3 rfl) ?_
  refine lv_iconst (v := 1) hx hb dL_law_1029 (by decide) ?_
  refine lv_iadd hx hb dL_law_1030 ?_
  refine va_sld hx hb hX hbl hbA hS (l_in (k := 1) hi hL (by decide)) dL_law_1031 ?_
  refine k_goi (va_runV (As := [.int (xs ((nI i) + 1).toNatClampNeg)]) (rest := [.int 1]) ⟨hx, hb, hml, hown, hts⟩ (zX6_image l D cy sa q2 (WX q cy u1 ++ (IW cy (some (t, k2)) ++ IW cy i1)) H.size v (xs ((nI i) + 1).toNatClampNeg) (r, v1) e2) (cwV 1 hts (gB_V wB857 wB858 wB859 wB5 wB860) rfl rfl rfl (by decide +kernel) ⟨Nat.le_of_ble_eq_true rfl, Nat.le_of_ble_eq_true rfl⟩) ⟨kP.blind, k_recv hE hP (ci := 6) (q0 := 0) rfl rfl, k_pre hP hD hS hE hA⟩ rfl rfl hl.1 rfl (lv_room (Nat.le_of_ble_eq_true rfl)) dL_law_1032 ⟨hcs7, hss7⟩) hD hS hA (fun H locs hP hD hS => ?_)
  have hP : va_P D vwCl (WM q2 cy v1 ++ (WX q cy u1 ++ (IW cy (some (t, k2)) ++ IW cy i1))) H := hP
  have hD : va_D (l_A s) (WM q2 cy v1 ++ (WX q cy u1 ++ (IW cy (some (t, k2)) ++ IW cy i1))) := hD
  have hP := l_ofP hP
  have hD := l_ofD hD
  refine lv_icmp_eq (tgt := 1123) hx hb dL_law_1035 (by decide) (fun c9 => ?_) (fun c9 => absurd hr1.symm c9)
  refine va_forget hS.2.2 ?_
  have hS : va_S (l_A s) s.heap H [] := ⟨hS.1, hS.2.1, fun l h => by cases h⟩
  have hR2 : R u1 (some k2) (i1.map Prod.snd) v1 := by rw [hu1]; exact hR1 _
  have hI2 : IM u1 (some (t, k2)) i1 := ⟨by rw [hu1, ha]; rfl, by rw [hu1, ha]; exact hI.2⟩
  exact K u1 t k2 v1 _ hR2 hI2 hP hD hS
set_option maxHeartbeats 1000000 in
theorem lc_imagen1 (hx : p.tables.exec = Jvm.exec) (hb : c.code = code) (hml : c.maxLocals = 4) (hown : s.vm.findClass RL = some m.cls) (hts : ∀ w ∈ wsL_law, w.before #[Value.ref b] s = true) (hX : va_X b L xs s s.heap) (hbl : b < s.heap.size) (hE : kE D cy sa (l_A s) s s.heap) (hi : i + 5 ≤ L) (hL : L ≤ 2560) (hcs7 : cells + 7 ≤ room_1.cells) (hss7 : slots + 194 ≤ room_1.slots) (hM : LM_image1 R) (ha : (xs ((nI i) + 1).toNatClampNeg) = 1) (hI : IM u i0 none) (hR : R u (i0.map Prod.snd) none v) (hP : va_P D vwCl (LWd q q2 cy u v i0 none) H) (hD : va_D (l_A s) (LWd q q2 cy u v i0 none)) (hS : va_S (l_A s) s.heap H []) (hl : lv_has ls 4 [(0, .ref b), (1, .ref (q 0)), (2, .ref (q2 0)), (3, .int (nI i))]) (K : ∀ (u1 : KS) (t : Nat → Nat) (k2 v1 : KS) (H : Heap), R u1 (i0.map Prod.snd) (some k2) v1 → IM u1 i0 (some (t, k2)) → va_P D vwCl (LWd q q2 cy u1 v1 i0 (some (t, k2))) H → va_D (l_A s) (LWd q q2 cy u1 v1 i0 (some (t, k2))) → va_S (l_A s) s.heap H [] → W p l e room_1 s m #[Value.ref b] below meth c H [] (cells + 7) (slots + 194) Z (F0 m 1123 ls [])) : W p l e room_1 s m #[Value.ref b] below meth c H [] cells slots Z (F0 m 1017 ls []) := by
  obtain ⟨k2, v1, e1, e2, hR1⟩ := hM u _ _ v hR
  obtain ⟨r, hr1⟩ : ∃ r : Int32, r = 1 := ⟨_, rfl⟩
  have e2 : mX6_image v (xs ((nI i) + 1).toNatClampNeg) = some (r, v1) := by rw [ha, hr1]; exact e2
  have hP : va_P D vwCl (WX q cy u ++ (IW cy i0 ++ (IW cy none ++ WM q2 cy v))) H := hP
  have hD : va_D (l_A s) (WX q cy u ++ (IW cy i0 ++ (IW cy none ++ WM q2 cy v))) := hD
  have hA : ∀ x : Nat, s.heap.size ≤ x → l_A s x := fun x h => h
  have hbA : ¬ l_A s b := Nat.not_le.mpr hbl
  refine lv_aload_n hx hb dL_law_1017 rfl (lv_at hl 1 rfl) ?_
  refine lv_aload_n hx hb dL_law_1018 rfl (lv_at hl 0 rfl) ?_
  refine lv_iload_n hx hb dL_law_1019 rfl (lv_at hl 3 rfl) ?_
  refine lv_iconst (v := 1) hx hb dL_law_1020 (by decide) ?_
  refine lv_iadd hx hb dL_law_1021 ?_
  refine va_sld hx hb hX hbl hbA hS (l_in (k := 1) hi hL (by decide)) dL_law_1022 ?_
  refine k_gol2 (va_runV (As := [.int (xs ((nI i) + 1).toNatClampNeg)]) (rest := []) ⟨hx, hb, hml, hown, hts⟩ (zX5_image_n l D cy sa q (IW cy i0 ++ (IW cy none ++ WM q2 cy v)) H.size u (xs ((nI i) + 1).toNatClampNeg) k2 (by rw [ha]; decide) (by rw [ha]; decide) (by rw [ha]; decide) (by rw [ha]; exact hI.2) e1) (cwV 1 hts (gB_V wB845 wB846 wB847 wB2 wB848) rfl rfl rfl (by decide +kernel) ⟨Nat.le_of_ble_eq_true rfl, Nat.le_of_ble_eq_true rfl⟩) ⟨kP.blind, k_recv hE hP (ci := 5) (q0 := 0) rfl rfl, k_pre hP hD hS hE hA⟩ rfl rfl hl.1 rfl (lv_room (Nat.le_of_ble_eq_true rfl)) dL_law_1023 ⟨hcs7, hss7⟩) hD hS hA (fun t H locs hP hD hS => ?_)
  obtain ⟨u1, hu1⟩ : ∃ u1 : KS, u1 = sO u (va_up (gO u) (xs ((nI i) + 1).toNatClampNeg).toNatClampNeg (some (t 0))) := ⟨_, rfl⟩
  have hP : va_P D vwCl (WX q cy u1 ++ (Wkept t cy k2 ++ (IW cy i0 ++ (IW cy none ++ WM q2 cy v)))) H := by rw [hu1]; exact hP
  have hD : va_D (l_A s) (WX q cy u1 ++ (Wkept t cy k2 ++ (IW cy i0 ++ (IW cy none ++ WM q2 cy v)))) := by rw [hu1]; exact hD
  have hP := l_mP hP
  have hD := l_mD hD
  have hP : va_P D vwCl (WX q cy u1 ++ (IW cy i0 ++ (IW cy (some (t, k2)) ++ WM q2 cy v))) H := hP
  have hD : va_D (l_A s) (WX q cy u1 ++ (IW cy i0 ++ (IW cy (some (t, k2)) ++ WM q2 cy v))) := hD
  have hP := l_toP hP
  have hD := l_toD hD
  refine lv_aload_n hx hb dL_law_1026 rfl (lv_at hl 2 rfl) ?_
  refine lv_aload_n hx hb dL_law_1027 rfl (lv_at hl 0 rfl) ?_
  refine lv_iload_n hx hb dL_law_1028 rfl (lv_at hl 3 rfl) ?_
  refine lv_iconst (v := 1) hx hb dL_law_1029 (by decide) ?_
  refine lv_iadd hx hb dL_law_1030 ?_
  refine va_sld hx hb hX hbl hbA hS (l_in (k := 1) hi hL (by decide)) dL_law_1031 ?_
  refine k_goi (va_runV (As := [.int (xs ((nI i) + 1).toNatClampNeg)]) (rest := [.int 1]) ⟨hx, hb, hml, hown, hts⟩ (zX6_image l D cy sa q2 (WX q cy u1 ++ (IW cy i0 ++ IW cy (some (t, k2)))) H.size v (xs ((nI i) + 1).toNatClampNeg) (r, v1) e2) (cwV 1 hts (gB_V wB857 wB858 wB859 wB5 wB860) rfl rfl rfl (by decide +kernel) ⟨Nat.le_of_ble_eq_true rfl, Nat.le_of_ble_eq_true rfl⟩) ⟨kP.blind, k_recv hE hP (ci := 6) (q0 := 0) rfl rfl, k_pre hP hD hS hE hA⟩ rfl rfl hl.1 rfl (lv_room (Nat.le_of_ble_eq_true rfl)) dL_law_1032 ⟨hcs7, hss7⟩) hD hS hA (fun H locs hP hD hS => ?_)
  have hP : va_P D vwCl (WM q2 cy v1 ++ (WX q cy u1 ++ (IW cy i0 ++ IW cy (some (t, k2))))) H := hP
  have hD : va_D (l_A s) (WM q2 cy v1 ++ (WX q cy u1 ++ (IW cy i0 ++ IW cy (some (t, k2))))) := hD
  have hP := l_ofP hP
  have hD := l_ofD hD
  refine lv_icmp_eq (tgt := 1123) hx hb dL_law_1035 (by decide) (fun c9 => ?_) (fun c9 => absurd hr1.symm c9)
  refine va_forget hS.2.2 ?_
  have hS : va_S (l_A s) s.heap H [] := ⟨hS.1, hS.2.1, fun l h => by cases h⟩
  have hR2 : R u1 (i0.map Prod.snd) (some k2) v1 := by rw [hu1]; exact hR1 _
  have hI2 : IM u1 i0 (some (t, k2)) := ⟨by rw [hu1, ha]; exact hI.1, by rw [hu1, ha]; rfl⟩
  exact K u1 t k2 v1 _ hR2 hI2 hP hD hS
end LAWI
