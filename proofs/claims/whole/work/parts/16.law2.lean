section LAWC
variable {p : Program} {l : Launch} {e : Env} {s : State} {m : MethodId} {below : List Frame} {meth : Method} {c : Code} {b L i : Nat} {xs : Nat → Int32} {D : va_G} {cy : Nat → ClassId} {sa : Nat → Nat} {q q2 : Nat → Nat} {u v : KS} {i0 i1 : Option ((Nat → Nat) × KS)} {H : Heap} {ls : Array Slot} {cells slots : Nat} {Z : State → Prop} {R : RR}
set_option maxHeartbeats 1000000 in
theorem lc_type (hx : p.tables.exec = Jvm.exec) (hb : c.code = code) (hml : c.maxLocals = 4) (hown : s.vm.findClass RL = some m.cls) (hts : ∀ w ∈ wsL_law, w.before #[Value.ref b] s = true) (hX : va_X b L xs s s.heap) (hbl : b < s.heap.size) (hE : kE D cy sa (l_A s) s s.heap) (hi : i + 5 ≤ L) (hL : L ≤ 2560) (hcs : cells ≤ room_1.cells) (hss : slots ≤ room_1.slots) (hM : LM_type R) (hR : R u (i0.map Prod.snd) (i1.map Prod.snd) v) (hP : va_P D vwCl (LWd q q2 cy u v i0 i1) H) (hD : va_D (l_A s) (LWd q q2 cy u v i0 i1)) (hS : va_S (l_A s) s.heap H []) (hl : lv_has ls 4 [(0, .ref b), (1, .ref (q 0)), (2, .ref (q2 0)), (3, .int (nI i))]) (K : ∀ (u1 v1 : KS) (H : Heap), R u1 (i0.map Prod.snd) (i1.map Prod.snd) v1 → gO u1 = gO u → va_P D vwCl (LWd q q2 cy u1 v1 i0 i1) H → va_D (l_A s) (LWd q q2 cy u1 v1 i0 i1) → va_S (l_A s) s.heap H [] → W p l e room_1 s m #[Value.ref b] below meth c H [] cells slots Z (F0 m 1123 ls [])) : W p l e room_1 s m #[Value.ref b] below meth c H [] cells slots Z (F0 m 176 ls []) := by
  have hA : ∀ x : Nat, s.heap.size ≤ x → l_A s x := fun x h => h
  have hbA : ¬ l_A s b := Nat.not_le.mpr hbl
  obtain ⟨r, u1, v1, e1, e2, hR1, hO⟩ := hM u _ _ v ((((xs ((nI i) + 1).toNatClampNeg).toInt64) <<< ((32 : Int32).toInt64 &&& 63)) ||| (((xs ((nI i) + 2).toNatClampNeg).toInt64) &&& 4294967295)) (xs ((nI i) + 3).toNatClampNeg) hR
  have hP : va_P D vwCl (WX q cy u ++ (IW cy i0 ++ (IW cy i1 ++ WM q2 cy v))) H := hP
  have hD : va_D (l_A s) (WX q cy u ++ (IW cy i0 ++ (IW cy i1 ++ WM q2 cy v))) := hD
  refine lv_aload_n hx hb dL_law_176 rfl (lv_at hl 1 rfl) ?_
  refine lv_aload_n hx hb dL_law_177 rfl (lv_at hl 0 rfl) ?_
  refine lv_iload_n hx hb dL_law_178 rfl (lv_at hl 3 rfl) ?_
  refine lv_iconst (v := 1) hx hb dL_law_179 (by decide) ?_
  refine lv_iadd hx hb dL_law_180 ?_
  refine va_sld hx hb hX hbl hbA hS (l_in (k := 1) hi hL (by decide)) dL_law_181 ?_
  refine lv_i2l (v := ((xs ((nI i) + 1).toNatClampNeg).toInt64)) hx hb dL_law_182 rfl ?_
  refine lv_bipush (v := 32) hx hb dL_law_183 (by decide) ?_
  refine lv_lshl (v := (((xs ((nI i) + 1).toNatClampNeg).toInt64) <<< ((32 : Int32).toInt64 &&& 63))) hx hb dL_law_185 rfl ?_
  refine lv_aload_n hx hb dL_law_186 rfl (lv_at hl 0 rfl) ?_
  refine lv_iload_n hx hb dL_law_187 rfl (lv_at hl 3 rfl) ?_
  refine lv_iconst (v := 2) hx hb dL_law_188 (by decide) ?_
  refine lv_iadd hx hb dL_law_189 ?_
  refine va_sld hx hb hX hbl hbA hS (l_in (k := 2) hi hL (by decide)) dL_law_190 ?_
  refine lv_i2l (v := ((xs ((nI i) + 2).toNatClampNeg).toInt64)) hx hb dL_law_191 rfl ?_
  refine lv_ldc2 (v := 4294967295) hx hb hown (hts _ wB6) dL_law_192 ?_
  refine lv_land hx hb dL_law_195 ?_
  refine lv_lor hx hb dL_law_196 ?_
  refine lv_aload_n hx hb dL_law_197 rfl (lv_at hl 0 rfl) ?_
  refine lv_iload_n hx hb dL_law_198 rfl (lv_at hl 3 rfl) ?_
  refine lv_iconst (v := 3) hx hb dL_law_199 (by decide) ?_
  refine lv_iadd hx hb dL_law_200 ?_
  refine va_sld hx hb hX hbl hbA hS (l_in (k := 3) hi hL (by decide)) dL_law_201 ?_
  refine k_goi (va_runV (As := [.long ((((xs ((nI i) + 1).toNatClampNeg).toInt64) <<< ((32 : Int32).toInt64 &&& 63)) ||| (((xs ((nI i) + 2).toNatClampNeg).toInt64) &&& 4294967295)), .int (xs ((nI i) + 3).toNatClampNeg)]) (rest := []) ⟨hx, hb, hml, hown, hts⟩ (zX5_type l D cy sa q (IW cy i0 ++ (IW cy i1 ++ WM q2 cy v)) H.size u ((((xs ((nI i) + 1).toNatClampNeg).toInt64) <<< ((32 : Int32).toInt64 &&& 63)) ||| (((xs ((nI i) + 2).toNatClampNeg).toInt64) &&& 4294967295)) (xs ((nI i) + 3).toNatClampNeg) (r, u1) e1) (cwV 2 hts (gB_V wB107 wB108 wB109 wB2 wB110) rfl rfl rfl (by decide +kernel) ⟨Nat.le_of_ble_eq_true rfl, Nat.le_of_ble_eq_true rfl⟩) ⟨kP.blind, k_recv hE hP (ci := 5) (q0 := 0) rfl rfl, k_pre hP hD hS hE hA⟩ rfl rfl hl.1 rfl (lv_room (Nat.le_of_ble_eq_true rfl)) dL_law_202 ⟨hcs, hss⟩) hD hS hA (fun H locs hP hD hS => ?_)
  have hP : va_P D vwCl (WX q cy u1 ++ (IW cy i0 ++ (IW cy i1 ++ WM q2 cy v))) H := hP
  have hD : va_D (l_A s) (WX q cy u1 ++ (IW cy i0 ++ (IW cy i1 ++ WM q2 cy v))) := hD
  have hP := l_toP hP
  have hD := l_toD hD
  refine lv_aload_n hx hb dL_law_205 rfl (lv_at hl 2 rfl) ?_
  refine lv_aload_n hx hb dL_law_206 rfl (lv_at hl 0 rfl) ?_
  refine lv_iload_n hx hb dL_law_207 rfl (lv_at hl 3 rfl) ?_
  refine lv_iconst (v := 1) hx hb dL_law_208 (by decide) ?_
  refine lv_iadd hx hb dL_law_209 ?_
  refine va_sld hx hb hX hbl hbA hS (l_in (k := 1) hi hL (by decide)) dL_law_210 ?_
  refine lv_i2l (v := ((xs ((nI i) + 1).toNatClampNeg).toInt64)) hx hb dL_law_211 rfl ?_
  refine lv_bipush (v := 32) hx hb dL_law_212 (by decide) ?_
  refine lv_lshl (v := (((xs ((nI i) + 1).toNatClampNeg).toInt64) <<< ((32 : Int32).toInt64 &&& 63))) hx hb dL_law_214 rfl ?_
  refine lv_aload_n hx hb dL_law_215 rfl (lv_at hl 0 rfl) ?_
  refine lv_iload_n hx hb dL_law_216 rfl (lv_at hl 3 rfl) ?_
  refine lv_iconst (v := 2) hx hb dL_law_217 (by decide) ?_
  refine lv_iadd hx hb dL_law_218 ?_
  refine va_sld hx hb hX hbl hbA hS (l_in (k := 2) hi hL (by decide)) dL_law_219 ?_
  refine lv_i2l (v := ((xs ((nI i) + 2).toNatClampNeg).toInt64)) hx hb dL_law_220 rfl ?_
  refine lv_ldc2 (v := 4294967295) hx hb hown (hts _ wB6) dL_law_221 ?_
  refine lv_land hx hb dL_law_224 ?_
  refine lv_lor hx hb dL_law_225 ?_
  refine lv_aload_n hx hb dL_law_226 rfl (lv_at hl 0 rfl) ?_
  refine lv_iload_n hx hb dL_law_227 rfl (lv_at hl 3 rfl) ?_
  refine lv_iconst (v := 3) hx hb dL_law_228 (by decide) ?_
  refine lv_iadd hx hb dL_law_229 ?_
  refine va_sld hx hb hX hbl hbA hS (l_in (k := 3) hi hL (by decide)) dL_law_230 ?_
  refine k_goi (va_runV (As := [.long ((((xs ((nI i) + 1).toNatClampNeg).toInt64) <<< ((32 : Int32).toInt64 &&& 63)) ||| (((xs ((nI i) + 2).toNatClampNeg).toInt64) &&& 4294967295)), .int (xs ((nI i) + 3).toNatClampNeg)]) (rest := [.int r]) ⟨hx, hb, hml, hown, hts⟩ (zX6_type l D cy sa q2 (WX q cy u1 ++ (IW cy i0 ++ IW cy i1)) H.size v ((((xs ((nI i) + 1).toNatClampNeg).toInt64) <<< ((32 : Int32).toInt64 &&& 63)) ||| (((xs ((nI i) + 2).toNatClampNeg).toInt64) &&& 4294967295)) (xs ((nI i) + 3).toNatClampNeg) (r, v1) e2) (cwV 2 hts (gB_V wB135 wB136 wB137 wB5 wB138) rfl rfl rfl (by decide +kernel) ⟨Nat.le_of_ble_eq_true rfl, Nat.le_of_ble_eq_true rfl⟩) ⟨kP.blind, k_recv hE hP (ci := 6) (q0 := 0) rfl rfl, k_pre hP hD hS hE hA⟩ rfl rfl hl.1 rfl (lv_room (Nat.le_of_ble_eq_true rfl)) dL_law_231 ⟨hcs, hss⟩) hD hS hA (fun H locs hP hD hS => ?_)
  have hP : va_P D vwCl (WM q2 cy v1 ++ (WX q cy u1 ++ (IW cy i0 ++ IW cy i1))) H := hP
  have hD : va_D (l_A s) (WM q2 cy v1 ++ (WX q cy u1 ++ (IW cy i0 ++ IW cy i1))) := hD
  have hP := l_ofP hP
  have hD := l_ofD hD
  refine lv_icmp_eq (tgt := 1123) hx hb dL_law_234 (by decide) (fun c9 => ?_) (fun c9 => absurd rfl c9)
  refine va_forget hS.2.2 ?_
  have hS : va_S (l_A s) s.heap H [] := ⟨hS.1, hS.2.1, fun l h => by cases h⟩
  exact K u1 v1 _ hR1 hO hP hD hS
set_option maxHeartbeats 1000000 in
theorem lc_clear (hx : p.tables.exec = Jvm.exec) (hb : c.code = code) (hml : c.maxLocals = 4) (hown : s.vm.findClass RL = some m.cls) (hts : ∀ w ∈ wsL_law, w.before #[Value.ref b] s = true) (hX : va_X b L xs s s.heap) (hbl : b < s.heap.size) (hE : kE D cy sa (l_A s) s s.heap) (hi : i + 5 ≤ L) (hL : L ≤ 2560) (hcs : cells ≤ room_1.cells) (hss : slots ≤ room_1.slots) (hM : LM_clear R) (hR : R u (i0.map Prod.snd) (i1.map Prod.snd) v) (hP : va_P D vwCl (LWd q q2 cy u v i0 i1) H) (hD : va_D (l_A s) (LWd q q2 cy u v i0 i1)) (hS : va_S (l_A s) s.heap H []) (hl : lv_has ls 4 [(0, .ref b), (1, .ref (q 0)), (2, .ref (q2 0)), (3, .int (nI i))]) (K : ∀ (u1 v1 : KS) (H : Heap), R u1 (i0.map Prod.snd) (i1.map Prod.snd) v1 → gO u1 = gO u → va_P D vwCl (LWd q q2 cy u1 v1 i0 i1) H → va_D (l_A s) (LWd q q2 cy u1 v1 i0 i1) → va_S (l_A s) s.heap H [] → W p l e room_1 s m #[Value.ref b] below meth c H [] cells slots Z (F0 m 1123 ls [])) : W p l e room_1 s m #[Value.ref b] below meth c H [] cells slots Z (F0 m 239 ls []) := by
  have hA : ∀ x : Nat, s.heap.size ≤ x → l_A s x := fun x h => h
  have hbA : ¬ l_A s b := Nat.not_le.mpr hbl
  obtain ⟨r, u1, v1, e1, e2, hR1, hO⟩ := hM u _ _ v  hR
  have hP : va_P D vwCl (WX q cy u ++ (IW cy i0 ++ (IW cy i1 ++ WM q2 cy v))) H := hP
  have hD : va_D (l_A s) (WX q cy u ++ (IW cy i0 ++ (IW cy i1 ++ WM q2 cy v))) := hD
  refine lv_aload_n hx hb dL_law_239 rfl (lv_at hl 1 rfl) ?_
  refine k_goi (va_runV (As := []) (rest := []) ⟨hx, hb, hml, hown, hts⟩ (zX5_clear l D cy sa q (IW cy i0 ++ (IW cy i1 ++ WM q2 cy v)) H.size u  (r, u1) e1) (cwV 0 hts (gB_V wB156 wB157 wB158 wB2 wB159) rfl rfl rfl (by decide +kernel) ⟨Nat.le_of_ble_eq_true rfl, Nat.le_of_ble_eq_true rfl⟩) ⟨kP.blind, k_recv hE hP (ci := 5) (q0 := 0) rfl rfl, k_pre hP hD hS hE hA⟩ rfl rfl hl.1 rfl (lv_room (Nat.le_of_ble_eq_true rfl)) dL_law_240 ⟨hcs, hss⟩) hD hS hA (fun H locs hP hD hS => ?_)
  have hP : va_P D vwCl (WX q cy u1 ++ (IW cy i0 ++ (IW cy i1 ++ WM q2 cy v))) H := hP
  have hD : va_D (l_A s) (WX q cy u1 ++ (IW cy i0 ++ (IW cy i1 ++ WM q2 cy v))) := hD
  have hP := l_toP hP
  have hD := l_toD hD
  refine lv_aload_n hx hb dL_law_243 rfl (lv_at hl 2 rfl) ?_
  refine k_goi (va_runV (As := []) (rest := [.int r]) ⟨hx, hb, hml, hown, hts⟩ (zX6_clear l D cy sa q2 (WX q cy u1 ++ (IW cy i0 ++ IW cy i1)) H.size v  (r, v1) e2) (cwV 0 hts (gB_V wB160 wB161 wB162 wB5 wB163) rfl rfl rfl (by decide +kernel) ⟨Nat.le_of_ble_eq_true rfl, Nat.le_of_ble_eq_true rfl⟩) ⟨kP.blind, k_recv hE hP (ci := 6) (q0 := 0) rfl rfl, k_pre hP hD hS hE hA⟩ rfl rfl hl.1 rfl (lv_room (Nat.le_of_ble_eq_true rfl)) dL_law_244 ⟨hcs, hss⟩) hD hS hA (fun H locs hP hD hS => ?_)
  have hP : va_P D vwCl (WM q2 cy v1 ++ (WX q cy u1 ++ (IW cy i0 ++ IW cy i1))) H := hP
  have hD : va_D (l_A s) (WM q2 cy v1 ++ (WX q cy u1 ++ (IW cy i0 ++ IW cy i1))) := hD
  have hP := l_ofP hP
  have hD := l_ofD hD
  refine lv_icmp_eq (tgt := 1123) hx hb dL_law_247 (by decide) (fun c9 => ?_) (fun c9 => absurd rfl c9)
  refine va_forget hS.2.2 ?_
  have hS : va_S (l_A s) s.heap H [] := ⟨hS.1, hS.2.1, fun l h => by cases h⟩
  exact K u1 v1 _ hR1 hO hP hD hS
set_option maxHeartbeats 1000000 in
theorem lc_faulty (hx : p.tables.exec = Jvm.exec) (hb : c.code = code) (hml : c.maxLocals = 4) (hown : s.vm.findClass RL = some m.cls) (hts : ∀ w ∈ wsL_law, w.before #[Value.ref b] s = true) (hX : va_X b L xs s s.heap) (hbl : b < s.heap.size) (hE : kE D cy sa (l_A s) s s.heap) (hi : i + 5 ≤ L) (hL : L ≤ 2560) (hcs : cells ≤ room_1.cells) (hss : slots ≤ room_1.slots) (hM : LM_faulty R) (hR : R u (i0.map Prod.snd) (i1.map Prod.snd) v) (hP : va_P D vwCl (LWd q q2 cy u v i0 i1) H) (hD : va_D (l_A s) (LWd q q2 cy u v i0 i1)) (hS : va_S (l_A s) s.heap H []) (hl : lv_has ls 4 [(0, .ref b), (1, .ref (q 0)), (2, .ref (q2 0)), (3, .int (nI i))]) (K : ∀ (u1 v1 : KS) (H : Heap), R u1 (i0.map Prod.snd) (i1.map Prod.snd) v1 → gO u1 = gO u → va_P D vwCl (LWd q q2 cy u1 v1 i0 i1) H → va_D (l_A s) (LWd q q2 cy u1 v1 i0 i1) → va_S (l_A s) s.heap H [] → W p l e room_1 s m #[Value.ref b] below meth c H [] cells slots Z (F0 m 1123 ls [])) : W p l e room_1 s m #[Value.ref b] below meth c H [] cells slots Z (F0 m 252 ls []) := by
  have hA : ∀ x : Nat, s.heap.size ≤ x → l_A s x := fun x h => h
  have hbA : ¬ l_A s b := Nat.not_le.mpr hbl
  obtain ⟨r, u1, v1, e1, e2, hR1, hO⟩ := hM u _ _ v  hR
  have hP : va_P D vwCl (WX q cy u ++ (IW cy i0 ++ (IW cy i1 ++ WM q2 cy v))) H := hP
  have hD : va_D (l_A s) (WX q cy u ++ (IW cy i0 ++ (IW cy i1 ++ WM q2 cy v))) := hD
  refine lv_aload_n hx hb dL_law_252 rfl (lv_at hl 1 rfl) ?_
  refine k_goi (va_runV (As := []) (rest := []) ⟨hx, hb, hml, hown, hts⟩ (zX5_faulty l D cy sa q (IW cy i0 ++ (IW cy i1 ++ WM q2 cy v)) H.size u  (r, u1) e1) (cwV 0 hts (gB_V wB168 wB169 wB170 wB2 wB171) rfl rfl rfl (by decide +kernel) ⟨Nat.le_of_ble_eq_true rfl, Nat.le_of_ble_eq_true rfl⟩) ⟨kP.blind, k_recv hE hP (ci := 5) (q0 := 0) rfl rfl, k_pre hP hD hS hE hA⟩ rfl rfl hl.1 rfl (lv_room (Nat.le_of_ble_eq_true rfl)) dL_law_253 ⟨hcs, hss⟩) hD hS hA (fun H locs hP hD hS => ?_)
  have hP : va_P D vwCl (WX q cy u1 ++ (IW cy i0 ++ (IW cy i1 ++ WM q2 cy v))) H := hP
  have hD : va_D (l_A s) (WX q cy u1 ++ (IW cy i0 ++ (IW cy i1 ++ WM q2 cy v))) := hD
  have hP := l_toP hP
  have hD := l_toD hD
  refine lv_aload_n hx hb dL_law_256 rfl (lv_at hl 2 rfl) ?_
  refine k_goi (va_runV (As := []) (rest := [.int r]) ⟨hx, hb, hml, hown, hts⟩ (zX6_faulty l D cy sa q2 (WX q cy u1 ++ (IW cy i0 ++ IW cy i1)) H.size v  (r, v1) e2) (cwV 0 hts (gB_V wB279 wB280 wB281 wB5 wB282) rfl rfl rfl (by decide +kernel) ⟨Nat.le_of_ble_eq_true rfl, Nat.le_of_ble_eq_true rfl⟩) ⟨kP.blind, k_recv hE hP (ci := 6) (q0 := 0) rfl rfl, k_pre hP hD hS hE hA⟩ rfl rfl hl.1 rfl (lv_room (Nat.le_of_ble_eq_true rfl)) dL_law_257 ⟨hcs, hss⟩) hD hS hA (fun H locs hP hD hS => ?_)
  have hP : va_P D vwCl (WM q2 cy v1 ++ (WX q cy u1 ++ (IW cy i0 ++ IW cy i1))) H := hP
  have hD : va_D (l_A s) (WM q2 cy v1 ++ (WX q cy u1 ++ (IW cy i0 ++ IW cy i1))) := hD
  have hP := l_ofP hP
  have hD := l_ofD hD
  refine lv_icmp_eq (tgt := 1123) hx hb dL_law_260 (by decide) (fun c9 => ?_) (fun c9 => absurd rfl c9)
  refine va_forget hS.2.2 ?_
  have hS : va_S (l_A s) s.heap H [] := ⟨hS.1, hS.2.1, fun l h => by cases h⟩
  exact K u1 v1 _ hR1 hO hP hD hS
set_option maxHeartbeats 1000000 in
theorem lc_minutes (hx : p.tables.exec = Jvm.exec) (hb : c.code = code) (hml : c.maxLocals = 4) (hown : s.vm.findClass RL = some m.cls) (hts : ∀ w ∈ wsL_law, w.before #[Value.ref b] s = true) (hX : va_X b L xs s s.heap) (hbl : b < s.heap.size) (hE : kE D cy sa (l_A s) s s.heap) (hi : i + 5 ≤ L) (hL : L ≤ 2560) (hcs : cells ≤ room_1.cells) (hss : slots ≤ room_1.slots) (hM : LM_minutes R) (hR : R u (i0.map Prod.snd) (i1.map Prod.snd) v) (hP : va_P D vwCl (LWd q q2 cy u v i0 i1) H) (hD : va_D (l_A s) (LWd q q2 cy u v i0 i1)) (hS : va_S (l_A s) s.heap H []) (hl : lv_has ls 4 [(0, .ref b), (1, .ref (q 0)), (2, .ref (q2 0)), (3, .int (nI i))]) (K : ∀ (u1 v1 : KS) (H : Heap), R u1 (i0.map Prod.snd) (i1.map Prod.snd) v1 → gO u1 = gO u → va_P D vwCl (LWd q q2 cy u1 v1 i0 i1) H → va_D (l_A s) (LWd q q2 cy u1 v1 i0 i1) → va_S (l_A s) s.heap H [] → W p l e room_1 s m #[Value.ref b] below meth c H [] cells slots Z (F0 m 1123 ls [])) : W p l e room_1 s m #[Value.ref b] below meth c H [] cells slots Z (F0 m 265 ls []) := by
  have hA : ∀ x : Nat, s.heap.size ≤ x → l_A s x := fun x h => h
  have hbA : ¬ l_A s b := Nat.not_le.mpr hbl
  obtain ⟨r, u1, v1, e1, e2, hR1, hO⟩ := hM u _ _ v  hR
  have hP : va_P D vwCl (WX q cy u ++ (IW cy i0 ++ (IW cy i1 ++ WM q2 cy v))) H := hP
  have hD : va_D (l_A s) (WX q cy u ++ (IW cy i0 ++ (IW cy i1 ++ WM q2 cy v))) := hD
  refine lv_aload_n hx hb dL_law_265 rfl (lv_at hl 1 rfl) ?_
  refine k_goi (va_runV (As := []) (rest := []) ⟨hx, hb, hml, hown, hts⟩ (zX5_minutes l D cy sa q (IW cy i0 ++ (IW cy i1 ++ WM q2 cy v)) H.size u  (r, u1) e1) (cwV 0 hts (gB_V wB311 wB312 wB313 wB2 wB314) rfl rfl rfl (by decide +kernel) ⟨Nat.le_of_ble_eq_true rfl, Nat.le_of_ble_eq_true rfl⟩) ⟨kP.blind, k_recv hE hP (ci := 5) (q0 := 0) rfl rfl, k_pre hP hD hS hE hA⟩ rfl rfl hl.1 rfl (lv_room (Nat.le_of_ble_eq_true rfl)) dL_law_266 ⟨hcs, hss⟩) hD hS hA (fun H locs hP hD hS => ?_)
  have hP : va_P D vwCl (WX q cy u1 ++ (IW cy i0 ++ (IW cy i1 ++ WM q2 cy v))) H := hP
  have hD : va_D (l_A s) (WX q cy u1 ++ (IW cy i0 ++ (IW cy i1 ++ WM q2 cy v))) := hD
  have hP := l_toP hP
  have hD := l_toD hD
  refine lv_aload_n hx hb dL_law_269 rfl (lv_at hl 2 rfl) ?_
  refine k_goi (va_runV (As := []) (rest := [.int r]) ⟨hx, hb, hml, hown, hts⟩ (zX6_minutes l D cy sa q2 (WX q cy u1 ++ (IW cy i0 ++ IW cy i1)) H.size v  (r, v1) e2) (cwV 0 hts (gB_V wB324 wB325 wB326 wB5 wB327) rfl rfl rfl (by decide +kernel) ⟨Nat.le_of_ble_eq_true rfl, Nat.le_of_ble_eq_true rfl⟩) ⟨kP.blind, k_recv hE hP (ci := 6) (q0 := 0) rfl rfl, k_pre hP hD hS hE hA⟩ rfl rfl hl.1 rfl (lv_room (Nat.le_of_ble_eq_true rfl)) dL_law_270 ⟨hcs, hss⟩) hD hS hA (fun H locs hP hD hS => ?_)
  have hP : va_P D vwCl (WM q2 cy v1 ++ (WX q cy u1 ++ (IW cy i0 ++ IW cy i1))) H := hP
  have hD : va_D (l_A s) (WM q2 cy v1 ++ (WX q cy u1 ++ (IW cy i0 ++ IW cy i1))) := hD
  have hP := l_ofP hP
  have hD := l_ofD hD
  refine lv_icmp_eq (tgt := 1123) hx hb dL_law_273 (by decide) (fun c9 => ?_) (fun c9 => absurd rfl c9)
  refine va_forget hS.2.2 ?_
  have hS : va_S (l_A s) s.heap H [] := ⟨hS.1, hS.2.1, fun l h => by cases h⟩
  exact K u1 v1 _ hR1 hO hP hD hS
set_option maxHeartbeats 1000000 in
theorem lc_put (hx : p.tables.exec = Jvm.exec) (hb : c.code = code) (hml : c.maxLocals = 4) (hown : s.vm.findClass RL = some m.cls) (hts : ∀ w ∈ wsL_law, w.before #[Value.ref b] s = true) (hX : va_X b L xs s s.heap) (hbl : b < s.heap.size) (hE : kE D cy sa (l_A s) s s.heap) (hi : i + 5 ≤ L) (hL : L ≤ 2560) (hcs : cells ≤ room_1.cells) (hss : slots ≤ room_1.slots) (hM : LM_put R) (hR : R u (i0.map Prod.snd) (i1.map Prod.snd) v) (hP : va_P D vwCl (LWd q q2 cy u v i0 i1) H) (hD : va_D (l_A s) (LWd q q2 cy u v i0 i1)) (hS : va_S (l_A s) s.heap H []) (hl : lv_has ls 4 [(0, .ref b), (1, .ref (q 0)), (2, .ref (q2 0)), (3, .int (nI i))]) (K : ∀ (u1 v1 : KS) (H : Heap), R u1 (i0.map Prod.snd) (i1.map Prod.snd) v1 → gO u1 = gO u → va_P D vwCl (LWd q q2 cy u1 v1 i0 i1) H → va_D (l_A s) (LWd q q2 cy u1 v1 i0 i1) → va_S (l_A s) s.heap H [] → W p l e room_1 s m #[Value.ref b] below meth c H [] cells slots Z (F0 m 1123 ls [])) : W p l e room_1 s m #[Value.ref b] below meth c H [] cells slots Z (F0 m 278 ls []) := by
  have hA : ∀ x : Nat, s.heap.size ≤ x → l_A s x := fun x h => h
  have hbA : ¬ l_A s b := Nat.not_le.mpr hbl
  obtain ⟨r, u1, v1, e1, e2, hR1, hO⟩ := hM u _ _ v (xs ((nI i) + 1).toNatClampNeg) (xs ((nI i) + 2).toNatClampNeg) hR
  have hP : va_P D vwCl (WX q cy u ++ (IW cy i0 ++ (IW cy i1 ++ WM q2 cy v))) H := hP
  have hD : va_D (l_A s) (WX q cy u ++ (IW cy i0 ++ (IW cy i1 ++ WM q2 cy v))) := hD
  refine lv_aload_n hx hb dL_law_278 rfl (lv_at hl 1 rfl) ?_
  refine lv_aload_n hx hb dL_law_279 rfl (lv_at hl 0 rfl) ?_
  refine lv_iload_n hx hb dL_law_280 rfl (lv_at hl 3 rfl) ?_
  refine lv_iconst (v := 1) hx hb dL_law_281 (by decide) ?_
  refine lv_iadd hx hb dL_law_282 ?_
  refine va_sld hx hb hX hbl hbA hS (l_in (k := 1) hi hL (by decide)) dL_law_283 ?_
  refine lv_aload_n hx hb dL_law_284 rfl (lv_at hl 0 rfl) ?_
  refine lv_iload_n hx hb dL_law_285 rfl (lv_at hl 3 rfl) ?_
  refine lv_iconst (v := 2) hx hb dL_law_286 (by decide) ?_
  refine lv_iadd hx hb dL_law_287 ?_
  refine va_sld hx hb hX hbl hbA hS (l_in (k := 2) hi hL (by decide)) dL_law_288 ?_
  refine k_goi (va_runV (As := [.int (xs ((nI i) + 1).toNatClampNeg), .int (xs ((nI i) + 2).toNatClampNeg)]) (rest := []) ⟨hx, hb, hml, hown, hts⟩ (zX5_put l D cy sa q (IW cy i0 ++ (IW cy i1 ++ WM q2 cy v)) H.size u (xs ((nI i) + 1).toNatClampNeg) (xs ((nI i) + 2).toNatClampNeg) (r, u1) e1) (cwV 2 hts (gB_V wB332 wB333 wB334 wB2 wB335) rfl rfl rfl (by decide +kernel) ⟨Nat.le_of_ble_eq_true rfl, Nat.le_of_ble_eq_true rfl⟩) ⟨kP.blind, k_recv hE hP (ci := 5) (q0 := 0) rfl rfl, k_pre hP hD hS hE hA⟩ rfl rfl hl.1 rfl (lv_room (Nat.le_of_ble_eq_true rfl)) dL_law_289 ⟨hcs, hss⟩) hD hS hA (fun H locs hP hD hS => ?_)
  have hP : va_P D vwCl (WX q cy u1 ++ (IW cy i0 ++ (IW cy i1 ++ WM q2 cy v))) H := hP
  have hD : va_D (l_A s) (WX q cy u1 ++ (IW cy i0 ++ (IW cy i1 ++ WM q2 cy v))) := hD
  have hP := l_toP hP
  have hD := l_toD hD
  refine lv_aload_n hx hb dL_law_292 rfl (lv_at hl 2 rfl) ?_
  refine lv_aload_n hx hb dL_law_293 rfl (lv_at hl 0 rfl) ?_
  refine lv_iload_n hx hb dL_law_294 rfl (lv_at hl 3 rfl) ?_
  refine lv_iconst (v := 1) hx hb dL_law_295 (by decide) ?_
  refine lv_iadd hx hb dL_law_296 ?_
  refine va_sld hx hb hX hbl hbA hS (l_in (k := 1) hi hL (by decide)) dL_law_297 ?_
  refine lv_aload_n hx hb dL_law_298 rfl (lv_at hl 0 rfl) ?_
  refine lv_iload_n hx hb dL_law_299 rfl (lv_at hl 3 rfl) ?_
  refine lv_iconst (v := 2) hx hb dL_law_300 (by decide) ?_
  refine lv_iadd hx hb dL_law_301 ?_
  refine va_sld hx hb hX hbl hbA hS (l_in (k := 2) hi hL (by decide)) dL_law_302 ?_
  refine k_goi (va_runV (As := [.int (xs ((nI i) + 1).toNatClampNeg), .int (xs ((nI i) + 2).toNatClampNeg)]) (rest := [.int r]) ⟨hx, hb, hml, hown, hts⟩ (zX6_put l D cy sa q2 (WX q cy u1 ++ (IW cy i0 ++ IW cy i1)) H.size v (xs ((nI i) + 1).toNatClampNeg) (xs ((nI i) + 2).toNatClampNeg) (r, v1) e2) (cwV 2 hts (gB_V wB341 wB342 wB343 wB5 wB344) rfl rfl rfl (by decide +kernel) ⟨Nat.le_of_ble_eq_true rfl, Nat.le_of_ble_eq_true rfl⟩) ⟨kP.blind, k_recv hE hP (ci := 6) (q0 := 0) rfl rfl, k_pre hP hD hS hE hA⟩ rfl rfl hl.1 rfl (lv_room (Nat.le_of_ble_eq_true rfl)) dL_law_303 ⟨hcs, hss⟩) hD hS hA (fun H locs hP hD hS => ?_)
  have hP : va_P D vwCl (WM q2 cy v1 ++ (WX q cy u1 ++ (IW cy i0 ++ IW cy i1))) H := hP
  have hD : va_D (l_A s) (WM q2 cy v1 ++ (WX q cy u1 ++ (IW cy i0 ++ IW cy i1))) := hD
  have hP := l_ofP hP
  have hD := l_ofD hD
  refine lv_icmp_eq (tgt := 1123) hx hb dL_law_306 (by decide) (fun c9 => ?_) (fun c9 => absurd rfl c9)
  refine va_forget hS.2.2 ?_
  have hS : va_S (l_A s) s.heap H [] := ⟨hS.1, hS.2.1, fun l h => by cases h⟩
  exact K u1 v1 _ hR1 hO hP hD hS
set_option maxHeartbeats 1000000 in
theorem lc_prior (hx : p.tables.exec = Jvm.exec) (hb : c.code = code) (hml : c.maxLocals = 4) (hown : s.vm.findClass RL = some m.cls) (hts : ∀ w ∈ wsL_law, w.before #[Value.ref b] s = true) (hX : va_X b L xs s s.heap) (hbl : b < s.heap.size) (hE : kE D cy sa (l_A s) s s.heap) (hi : i + 5 ≤ L) (hL : L ≤ 2560) (hcs : cells ≤ room_1.cells) (hss : slots ≤ room_1.slots) (hM : LM_prior R) (hR : R u (i0.map Prod.snd) (i1.map Prod.snd) v) (hP : va_P D vwCl (LWd q q2 cy u v i0 i1) H) (hD : va_D (l_A s) (LWd q q2 cy u v i0 i1)) (hS : va_S (l_A s) s.heap H []) (hl : lv_has ls 4 [(0, .ref b), (1, .ref (q 0)), (2, .ref (q2 0)), (3, .int (nI i))]) (K : ∀ (u1 v1 : KS) (H : Heap), R u1 (i0.map Prod.snd) (i1.map Prod.snd) v1 → gO u1 = gO u → va_P D vwCl (LWd q q2 cy u1 v1 i0 i1) H → va_D (l_A s) (LWd q q2 cy u1 v1 i0 i1) → va_S (l_A s) s.heap H [] → W p l e room_1 s m #[Value.ref b] below meth c H [] cells slots Z (F0 m 1123 ls [])) : W p l e room_1 s m #[Value.ref b] below meth c H [] cells slots Z (F0 m 311 ls []) := by
  have hA : ∀ x : Nat, s.heap.size ≤ x → l_A s x := fun x h => h
  have hbA : ¬ l_A s b := Nat.not_le.mpr hbl
  obtain ⟨r, u1, v1, e1, e2, hR1, hO⟩ := hM u _ _ v (xs ((nI i) + 1).toNatClampNeg) (xs ((nI i) + 2).toNatClampNeg) hR
  have hP : va_P D vwCl (WX q cy u ++ (IW cy i0 ++ (IW cy i1 ++ WM q2 cy v))) H := hP
  have hD : va_D (l_A s) (WX q cy u ++ (IW cy i0 ++ (IW cy i1 ++ WM q2 cy v))) := hD
  refine lv_aload_n hx hb dL_law_311 rfl (lv_at hl 1 rfl) ?_
  refine lv_aload_n hx hb dL_law_312 rfl (lv_at hl 0 rfl) ?_
  refine lv_iload_n hx hb dL_law_313 rfl (lv_at hl 3 rfl) ?_
  refine lv_iconst (v := 1) hx hb dL_law_314 (by decide) ?_
  refine lv_iadd hx hb dL_law_315 ?_
  refine va_sld hx hb hX hbl hbA hS (l_in (k := 1) hi hL (by decide)) dL_law_316 ?_
  refine lv_aload_n hx hb dL_law_317 rfl (lv_at hl 0 rfl) ?_
  refine lv_iload_n hx hb dL_law_318 rfl (lv_at hl 3 rfl) ?_
  refine lv_iconst (v := 2) hx hb dL_law_319 (by decide) ?_
  refine lv_iadd hx hb dL_law_320 ?_
  refine va_sld hx hb hX hbl hbA hS (l_in (k := 2) hi hL (by decide)) dL_law_321 ?_
  refine k_goi (va_runV (As := [.int (xs ((nI i) + 1).toNatClampNeg), .int (xs ((nI i) + 2).toNatClampNeg)]) (rest := []) ⟨hx, hb, hml, hown, hts⟩ (zX5_prior l D cy sa q (IW cy i0 ++ (IW cy i1 ++ WM q2 cy v)) H.size u (xs ((nI i) + 1).toNatClampNeg) (xs ((nI i) + 2).toNatClampNeg) (r, u1) e1) (cwV 2 hts (gB_V wB348 wB349 wB350 wB2 wB351) rfl rfl rfl (by decide +kernel) ⟨Nat.le_of_ble_eq_true rfl, Nat.le_of_ble_eq_true rfl⟩) ⟨kP.blind, k_recv hE hP (ci := 5) (q0 := 0) rfl rfl, k_pre hP hD hS hE hA⟩ rfl rfl hl.1 rfl (lv_room (Nat.le_of_ble_eq_true rfl)) dL_law_322 ⟨hcs, hss⟩) hD hS hA (fun H locs hP hD hS => ?_)
  have hP : va_P D vwCl (WX q cy u1 ++ (IW cy i0 ++ (IW cy i1 ++ WM q2 cy v))) H := hP
  have hD : va_D (l_A s) (WX q cy u1 ++ (IW cy i0 ++ (IW cy i1 ++ WM q2 cy v))) := hD
  have hP := l_toP hP
  have hD := l_toD hD
  refine lv_aload_n hx hb dL_law_325 rfl (lv_at hl 2 rfl) ?_
  refine lv_aload_n hx hb dL_law_326 rfl (lv_at hl 0 rfl) ?_
  refine lv_iload_n hx hb dL_law_327 rfl (lv_at hl 3 rfl) ?_
  refine lv_iconst (v := 1) hx hb dL_law_328 (by decide) ?_
  refine lv_iadd hx hb dL_law_329 ?_
  refine va_sld hx hb hX hbl hbA hS (l_in (k := 1) hi hL (by decide)) dL_law_330 ?_
  refine lv_aload_n hx hb dL_law_331 rfl (lv_at hl 0 rfl) ?_
  refine lv_iload_n hx hb dL_law_332 rfl (lv_at hl 3 rfl) ?_
  refine lv_iconst (v := 2) hx hb dL_law_333 (by decide) ?_
  refine lv_iadd hx hb dL_law_334 ?_
  refine va_sld hx hb hX hbl hbA hS (l_in (k := 2) hi hL (by decide)) dL_law_335 ?_
  refine k_goi (va_runV (As := [.int (xs ((nI i) + 1).toNatClampNeg), .int (xs ((nI i) + 2).toNatClampNeg)]) (rest := [.int r]) ⟨hx, hb, hml, hown, hts⟩ (zX6_prior l D cy sa q2 (WX q cy u1 ++ (IW cy i0 ++ IW cy i1)) H.size v (xs ((nI i) + 1).toNatClampNeg) (xs ((nI i) + 2).toNatClampNeg) (r, v1) e2) (cwV 2 hts (gB_V wB353 wB354 wB355 wB5 wB356) rfl rfl rfl (by decide +kernel) ⟨Nat.le_of_ble_eq_true rfl, Nat.le_of_ble_eq_true rfl⟩) ⟨kP.blind, k_recv hE hP (ci := 6) (q0 := 0) rfl rfl, k_pre hP hD hS hE hA⟩ rfl rfl hl.1 rfl (lv_room (Nat.le_of_ble_eq_true rfl)) dL_law_336 ⟨hcs, hss⟩) hD hS hA (fun H locs hP hD hS => ?_)
  have hP : va_P D vwCl (WM q2 cy v1 ++ (WX q cy u1 ++ (IW cy i0 ++ IW cy i1))) H := hP
  have hD : va_D (l_A s) (WM q2 cy v1 ++ (WX q cy u1 ++ (IW cy i0 ++ IW cy i1))) := hD
  have hP := l_ofP hP
  have hD := l_ofD hD
  refine lv_icmp_eq (tgt := 1123) hx hb dL_law_339 (by decide) (fun c9 => ?_) (fun c9 => absurd rfl c9)
  refine va_forget hS.2.2 ?_
  have hS : va_S (l_A s) s.heap H [] := ⟨hS.1, hS.2.1, fun l h => by cases h⟩
  exact K u1 v1 _ hR1 hO hP hD hS
set_option maxHeartbeats 1000000 in
theorem lc_fault (hx : p.tables.exec = Jvm.exec) (hb : c.code = code) (hml : c.maxLocals = 4) (hown : s.vm.findClass RL = some m.cls) (hts : ∀ w ∈ wsL_law, w.before #[Value.ref b] s = true) (hX : va_X b L xs s s.heap) (hbl : b < s.heap.size) (hE : kE D cy sa (l_A s) s s.heap) (hi : i + 5 ≤ L) (hL : L ≤ 2560) (hcs : cells ≤ room_1.cells) (hss : slots ≤ room_1.slots) (hM : LM_fault R) (hR : R u (i0.map Prod.snd) (i1.map Prod.snd) v) (hP : va_P D vwCl (LWd q q2 cy u v i0 i1) H) (hD : va_D (l_A s) (LWd q q2 cy u v i0 i1)) (hS : va_S (l_A s) s.heap H []) (hl : lv_has ls 4 [(0, .ref b), (1, .ref (q 0)), (2, .ref (q2 0)), (3, .int (nI i))]) (K : ∀ (u1 v1 : KS) (H : Heap), R u1 (i0.map Prod.snd) (i1.map Prod.snd) v1 → gO u1 = gO u → va_P D vwCl (LWd q q2 cy u1 v1 i0 i1) H → va_D (l_A s) (LWd q q2 cy u1 v1 i0 i1) → va_S (l_A s) s.heap H [] → W p l e room_1 s m #[Value.ref b] below meth c H [] cells slots Z (F0 m 1123 ls [])) : W p l e room_1 s m #[Value.ref b] below meth c H [] cells slots Z (F0 m 344 ls []) := by
  have hA : ∀ x : Nat, s.heap.size ≤ x → l_A s x := fun x h => h
  have hbA : ¬ l_A s b := Nat.not_le.mpr hbl
  obtain ⟨r, u1, v1, e1, e2, hR1, hO⟩ := hM u _ _ v (xs ((nI i) + 1).toNatClampNeg) (xs ((nI i) + 2).toNatClampNeg) (xs ((nI i) + 3).toNatClampNeg) hR
  have hP : va_P D vwCl (WX q cy u ++ (IW cy i0 ++ (IW cy i1 ++ WM q2 cy v))) H := hP
  have hD : va_D (l_A s) (WX q cy u ++ (IW cy i0 ++ (IW cy i1 ++ WM q2 cy v))) := hD
  refine lv_aload_n hx hb dL_law_344 rfl (lv_at hl 1 rfl) ?_
  refine lv_aload_n hx hb dL_law_345 rfl (lv_at hl 0 rfl) ?_
  refine lv_iload_n hx hb dL_law_346 rfl (lv_at hl 3 rfl) ?_
  refine lv_iconst (v := 1) hx hb dL_law_347 (by decide) ?_
  refine lv_iadd hx hb dL_law_348 ?_
  refine va_sld hx hb hX hbl hbA hS (l_in (k := 1) hi hL (by decide)) dL_law_349 ?_
  refine lv_aload_n hx hb dL_law_350 rfl (lv_at hl 0 rfl) ?_
  refine lv_iload_n hx hb dL_law_351 rfl (lv_at hl 3 rfl) ?_
  refine lv_iconst (v := 2) hx hb dL_law_352 (by decide) ?_
  refine lv_iadd hx hb dL_law_353 ?_
  refine va_sld hx hb hX hbl hbA hS (l_in (k := 2) hi hL (by decide)) dL_law_354 ?_
  refine lv_aload_n hx hb dL_law_355 rfl (lv_at hl 0 rfl) ?_
  refine lv_iload_n hx hb dL_law_356 rfl (lv_at hl 3 rfl) ?_
  refine lv_iconst (v := 3) hx hb dL_law_357 (by decide) ?_
  refine lv_iadd hx hb dL_law_358 ?_
  refine va_sld hx hb hX hbl hbA hS (l_in (k := 3) hi hL (by decide)) dL_law_359 ?_
  refine k_goi (va_runV (As := [.int (xs ((nI i) + 1).toNatClampNeg), .int (xs ((nI i) + 2).toNatClampNeg), .int (xs ((nI i) + 3).toNatClampNeg)]) (rest := []) ⟨hx, hb, hml, hown, hts⟩ (zX5_fault l D cy sa q (IW cy i0 ++ (IW cy i1 ++ WM q2 cy v)) H.size u (xs ((nI i) + 1).toNatClampNeg) (xs ((nI i) + 2).toNatClampNeg) (xs ((nI i) + 3).toNatClampNeg) (r, u1) e1) (cwV 3 hts (gB_V wB358 wB359 wB360 wB2 wB361) rfl rfl rfl (by decide +kernel) ⟨Nat.le_of_ble_eq_true rfl, Nat.le_of_ble_eq_true rfl⟩) ⟨kP.blind, k_recv hE hP (ci := 5) (q0 := 0) rfl rfl, k_pre hP hD hS hE hA⟩ rfl rfl hl.1 rfl (lv_room (Nat.le_of_ble_eq_true rfl)) dL_law_360 ⟨hcs, hss⟩) hD hS hA (fun H locs hP hD hS => ?_)
  have hP : va_P D vwCl (WX q cy u1 ++ (IW cy i0 ++ (IW cy i1 ++ WM q2 cy v))) H := hP
  have hD : va_D (l_A s) (WX q cy u1 ++ (IW cy i0 ++ (IW cy i1 ++ WM q2 cy v))) := hD
  have hP := l_toP hP
  have hD := l_toD hD
  refine lv_aload_n hx hb dL_law_363 rfl (lv_at hl 2 rfl) ?_
  refine lv_aload_n hx hb dL_law_364 rfl (lv_at hl 0 rfl) ?_
  refine lv_iload_n hx hb dL_law_365 rfl (lv_at hl 3 rfl) ?_
  refine lv_iconst (v := 1) hx hb dL_law_366 (by decide) ?_
  refine lv_iadd hx hb dL_law_367 ?_
  refine va_sld hx hb hX hbl hbA hS (l_in (k := 1) hi hL (by decide)) dL_law_368 ?_
  refine lv_aload_n hx hb dL_law_369 rfl (lv_at hl 0 rfl) ?_
  refine lv_iload_n hx hb dL_law_370 rfl (lv_at hl 3 rfl) ?_
  refine lv_iconst (v := 2) hx hb dL_law_371 (by decide) ?_
  refine lv_iadd hx hb dL_law_372 ?_
  refine va_sld hx hb hX hbl hbA hS (l_in (k := 2) hi hL (by decide)) dL_law_373 ?_
  refine lv_aload_n hx hb dL_law_374 rfl (lv_at hl 0 rfl) ?_
  refine lv_iload_n hx hb dL_law_375 rfl (lv_at hl 3 rfl) ?_
  refine lv_iconst (v := 3) hx hb dL_law_376 (by decide) ?_
  refine lv_iadd hx hb dL_law_377 ?_
  refine va_sld hx hb hX hbl hbA hS (l_in (k := 3) hi hL (by decide)) dL_law_378 ?_
  refine k_goi (va_runV (As := [.int (xs ((nI i) + 1).toNatClampNeg), .int (xs ((nI i) + 2).toNatClampNeg), .int (xs ((nI i) + 3).toNatClampNeg)]) (rest := [.int r]) ⟨hx, hb, hml, hown, hts⟩ (zX6_fault l D cy sa q2 (WX q cy u1 ++ (IW cy i0 ++ IW cy i1)) H.size v (xs ((nI i) + 1).toNatClampNeg) (xs ((nI i) + 2).toNatClampNeg) (xs ((nI i) + 3).toNatClampNeg) (r, v1) e2) (cwV 3 hts (gB_V wB372 wB373 wB374 wB5 wB375) rfl rfl rfl (by decide +kernel) ⟨Nat.le_of_ble_eq_true rfl, Nat.le_of_ble_eq_true rfl⟩) ⟨kP.blind, k_recv hE hP (ci := 6) (q0 := 0) rfl rfl, k_pre hP hD hS hE hA⟩ rfl rfl hl.1 rfl (lv_room (Nat.le_of_ble_eq_true rfl)) dL_law_379 ⟨hcs, hss⟩) hD hS hA (fun H locs hP hD hS => ?_)
  have hP : va_P D vwCl (WM q2 cy v1 ++ (WX q cy u1 ++ (IW cy i0 ++ IW cy i1))) H := hP
  have hD : va_D (l_A s) (WM q2 cy v1 ++ (WX q cy u1 ++ (IW cy i0 ++ IW cy i1))) := hD
  have hP := l_ofP hP
  have hD := l_ofD hD
  refine lv_icmp_eq (tgt := 1123) hx hb dL_law_382 (by decide) (fun c9 => ?_) (fun c9 => absurd rfl c9)
  refine va_forget hS.2.2 ?_
  have hS : va_S (l_A s) s.heap H [] := ⟨hS.1, hS.2.1, fun l h => by cases h⟩
  exact K u1 v1 _ hR1 hO hP hD hS
set_option maxHeartbeats 1000000 in
theorem lc_warm (hx : p.tables.exec = Jvm.exec) (hb : c.code = code) (hml : c.maxLocals = 4) (hown : s.vm.findClass RL = some m.cls) (hts : ∀ w ∈ wsL_law, w.before #[Value.ref b] s = true) (hX : va_X b L xs s s.heap) (hbl : b < s.heap.size) (hE : kE D cy sa (l_A s) s s.heap) (hi : i + 5 ≤ L) (hL : L ≤ 2560) (hcs : cells ≤ room_1.cells) (hss : slots ≤ room_1.slots) (hM : LM_warm R) (hR : R u (i0.map Prod.snd) (i1.map Prod.snd) v) (hP : va_P D vwCl (LWd q q2 cy u v i0 i1) H) (hD : va_D (l_A s) (LWd q q2 cy u v i0 i1)) (hS : va_S (l_A s) s.heap H []) (hl : lv_has ls 4 [(0, .ref b), (1, .ref (q 0)), (2, .ref (q2 0)), (3, .int (nI i))]) (K : ∀ (u1 v1 : KS) (H : Heap), R u1 (i0.map Prod.snd) (i1.map Prod.snd) v1 → gO u1 = gO u → va_P D vwCl (LWd q q2 cy u1 v1 i0 i1) H → va_D (l_A s) (LWd q q2 cy u1 v1 i0 i1) → va_S (l_A s) s.heap H [] → W p l e room_1 s m #[Value.ref b] below meth c H [] cells slots Z (F0 m 1123 ls [])) : W p l e room_1 s m #[Value.ref b] below meth c H [] cells slots Z (F0 m 387 ls []) := by
  have hA : ∀ x : Nat, s.heap.size ≤ x → l_A s x := fun x h => h
  have hbA : ¬ l_A s b := Nat.not_le.mpr hbl
  obtain ⟨r, u1, v1, e1, e2, hR1, hO⟩ := hM u _ _ v (xs ((nI i) + 1).toNatClampNeg) hR
  have hP : va_P D vwCl (WX q cy u ++ (IW cy i0 ++ (IW cy i1 ++ WM q2 cy v))) H := hP
  have hD : va_D (l_A s) (WX q cy u ++ (IW cy i0 ++ (IW cy i1 ++ WM q2 cy v))) := hD
  refine lv_aload_n hx hb dL_law_387 rfl (lv_at hl 1 rfl) ?_
  refine lv_aload_n hx hb dL_law_388 rfl (lv_at hl 0 rfl) ?_
  refine lv_iload_n hx hb dL_law_389 rfl (lv_at hl 3 rfl) ?_
  refine lv_iconst (v := 1) hx hb dL_law_390 (by decide) ?_
  refine lv_iadd hx hb dL_law_391 ?_
  refine va_sld hx hb hX hbl hbA hS (l_in (k := 1) hi hL (by decide)) dL_law_392 ?_
  refine k_goi (va_runV (As := [.int (xs ((nI i) + 1).toNatClampNeg)]) (rest := []) ⟨hx, hb, hml, hown, hts⟩ (zX5_warm l D cy sa q (IW cy i0 ++ (IW cy i1 ++ WM q2 cy v)) H.size u (xs ((nI i) + 1).toNatClampNeg) (r, u1) e1) (cwV 1 hts (gB_V wB377 wB378 wB379 wB2 wB380) rfl rfl rfl (by decide +kernel) ⟨Nat.le_of_ble_eq_true rfl, Nat.le_of_ble_eq_true rfl⟩) ⟨kP.blind, k_recv hE hP (ci := 5) (q0 := 0) rfl rfl, k_pre hP hD hS hE hA⟩ rfl rfl hl.1 rfl (lv_room (Nat.le_of_ble_eq_true rfl)) dL_law_393 ⟨hcs, hss⟩) hD hS hA (fun H locs hP hD hS => ?_)
  have hP : va_P D vwCl (WX q cy u1 ++ (IW cy i0 ++ (IW cy i1 ++ WM q2 cy v))) H := hP
  have hD : va_D (l_A s) (WX q cy u1 ++ (IW cy i0 ++ (IW cy i1 ++ WM q2 cy v))) := hD
  have hP := l_toP hP
  have hD := l_toD hD
  refine lv_aload_n hx hb dL_law_396 rfl (lv_at hl 2 rfl) ?_
  refine lv_aload_n hx hb dL_law_397 rfl (lv_at hl 0 rfl) ?_
  refine lv_iload_n hx hb dL_law_398 rfl (lv_at hl 3 rfl) ?_
  refine lv_iconst (v := 1) hx hb dL_law_399 (by decide) ?_
  refine lv_iadd hx hb dL_law_400 ?_
  refine va_sld hx hb hX hbl hbA hS (l_in (k := 1) hi hL (by decide)) dL_law_401 ?_
  refine k_goi (va_runV (As := [.int (xs ((nI i) + 1).toNatClampNeg)]) (rest := [.int r]) ⟨hx, hb, hml, hown, hts⟩ (zX6_warm l D cy sa q2 (WX q cy u1 ++ (IW cy i0 ++ IW cy i1)) H.size v (xs ((nI i) + 1).toNatClampNeg) (r, v1) e2) (cwV 1 hts (gB_V wB382 wB383 wB384 wB5 wB385) rfl rfl rfl (by decide +kernel) ⟨Nat.le_of_ble_eq_true rfl, Nat.le_of_ble_eq_true rfl⟩) ⟨kP.blind, k_recv hE hP (ci := 6) (q0 := 0) rfl rfl, k_pre hP hD hS hE hA⟩ rfl rfl hl.1 rfl (lv_room (Nat.le_of_ble_eq_true rfl)) dL_law_402 ⟨hcs, hss⟩) hD hS hA (fun H locs hP hD hS => ?_)
  have hP : va_P D vwCl (WM q2 cy v1 ++ (WX q cy u1 ++ (IW cy i0 ++ IW cy i1))) H := hP
  have hD : va_D (l_A s) (WM q2 cy v1 ++ (WX q cy u1 ++ (IW cy i0 ++ IW cy i1))) := hD
  have hP := l_ofP hP
  have hD := l_ofD hD
  refine lv_icmp_eq (tgt := 1123) hx hb dL_law_405 (by decide) (fun c9 => ?_) (fun c9 => absurd rfl c9)
  refine va_forget hS.2.2 ?_
  have hS : va_S (l_A s) s.heap H [] := ⟨hS.1, hS.2.1, fun l h => by cases h⟩
  exact K u1 v1 _ hR1 hO hP hD hS
set_option maxHeartbeats 1000000 in
theorem lc_gives (hx : p.tables.exec = Jvm.exec) (hb : c.code = code) (hml : c.maxLocals = 4) (hown : s.vm.findClass RL = some m.cls) (hts : ∀ w ∈ wsL_law, w.before #[Value.ref b] s = true) (hX : va_X b L xs s s.heap) (hbl : b < s.heap.size) (hE : kE D cy sa (l_A s) s s.heap) (hi : i + 5 ≤ L) (hL : L ≤ 2560) (hcs : cells ≤ room_1.cells) (hss : slots ≤ room_1.slots) (hM : LM_gives R) (hR : R u (i0.map Prod.snd) (i1.map Prod.snd) v) (hP : va_P D vwCl (LWd q q2 cy u v i0 i1) H) (hD : va_D (l_A s) (LWd q q2 cy u v i0 i1)) (hS : va_S (l_A s) s.heap H []) (hl : lv_has ls 4 [(0, .ref b), (1, .ref (q 0)), (2, .ref (q2 0)), (3, .int (nI i))]) (K : ∀ (u1 v1 : KS) (H : Heap), R u1 (i0.map Prod.snd) (i1.map Prod.snd) v1 → gO u1 = gO u → va_P D vwCl (LWd q q2 cy u1 v1 i0 i1) H → va_D (l_A s) (LWd q q2 cy u1 v1 i0 i1) → va_S (l_A s) s.heap H [] → W p l e room_1 s m #[Value.ref b] below meth c H [] cells slots Z (F0 m 1123 ls [])) : W p l e room_1 s m #[Value.ref b] below meth c H [] cells slots Z (F0 m 410 ls []) := by
  have hA : ∀ x : Nat, s.heap.size ≤ x → l_A s x := fun x h => h
  have hbA : ¬ l_A s b := Nat.not_le.mpr hbl
  obtain ⟨r, u1, v1, e1, e2, hR1, hO⟩ := hM u _ _ v (xs ((nI i) + 1).toNatClampNeg) (xs ((nI i) + 2).toNatClampNeg) (xs ((nI i) + 3).toNatClampNeg) (xs ((nI i) + 4).toNatClampNeg) hR
  have hP : va_P D vwCl (WX q cy u ++ (IW cy i0 ++ (IW cy i1 ++ WM q2 cy v))) H := hP
  have hD : va_D (l_A s) (WX q cy u ++ (IW cy i0 ++ (IW cy i1 ++ WM q2 cy v))) := hD
  refine lv_aload_n hx hb dL_law_410 rfl (lv_at hl 1 rfl) ?_
  refine lv_aload_n hx hb dL_law_411 rfl (lv_at hl 0 rfl) ?_
  refine lv_iload_n hx hb dL_law_412 rfl (lv_at hl 3 rfl) ?_
  refine lv_iconst (v := 1) hx hb dL_law_413 (by decide) ?_
  refine lv_iadd hx hb dL_law_414 ?_
  refine va_sld hx hb hX hbl hbA hS (l_in (k := 1) hi hL (by decide)) dL_law_415 ?_
  refine lv_aload_n hx hb dL_law_416 rfl (lv_at hl 0 rfl) ?_
  refine lv_iload_n hx hb dL_law_417 rfl (lv_at hl 3 rfl) ?_
  refine lv_iconst (v := 2) hx hb dL_law_418 (by decide) ?_
  refine lv_iadd hx hb dL_law_419 ?_
  refine va_sld hx hb hX hbl hbA hS (l_in (k := 2) hi hL (by decide)) dL_law_420 ?_
  refine lv_aload_n hx hb dL_law_421 rfl (lv_at hl 0 rfl) ?_
  refine lv_iload_n hx hb dL_law_422 rfl (lv_at hl 3 rfl) ?_
  refine lv_iconst (v := 3) hx hb dL_law_423 (by decide) ?_
  refine lv_iadd hx hb dL_law_424 ?_
  refine va_sld hx hb hX hbl hbA hS (l_in (k := 3) hi hL (by decide)) dL_law_425 ?_
  refine lv_aload_n hx hb dL_law_426 rfl (lv_at hl 0 rfl) ?_
  refine lv_iload_n hx hb dL_law_427 rfl (lv_at hl 3 rfl) ?_
  refine lv_iconst (v := 4) hx hb dL_law_428 (by decide) ?_
  refine lv_iadd hx hb dL_law_429 ?_
  refine va_sld hx hb hX hbl hbA hS (l_in (k := 4) hi hL (by decide)) dL_law_430 ?_
  refine k_goi (va_runV (As := [.int (xs ((nI i) + 1).toNatClampNeg), .int (xs ((nI i) + 2).toNatClampNeg), .int (xs ((nI i) + 3).toNatClampNeg), .int (xs ((nI i) + 4).toNatClampNeg)]) (rest := []) ⟨hx, hb, hml, hown, hts⟩ (zX5_gives l D cy sa q (IW cy i0 ++ (IW cy i1 ++ WM q2 cy v)) H.size u (xs ((nI i) + 1).toNatClampNeg) (xs ((nI i) + 2).toNatClampNeg) (xs ((nI i) + 3).toNatClampNeg) (xs ((nI i) + 4).toNatClampNeg) (r, u1) e1) (cwV 4 hts (gB_V wB401 wB402 wB403 wB2 wB404) rfl rfl rfl (by decide +kernel) ⟨Nat.le_of_ble_eq_true rfl, Nat.le_of_ble_eq_true rfl⟩) ⟨kP.blind, k_recv hE hP (ci := 5) (q0 := 0) rfl rfl, k_pre hP hD hS hE hA⟩ rfl rfl hl.1 rfl (lv_room (Nat.le_of_ble_eq_true rfl)) dL_law_431 ⟨hcs, hss⟩) hD hS hA (fun H locs hP hD hS => ?_)
  have hP : va_P D vwCl (WX q cy u1 ++ (IW cy i0 ++ (IW cy i1 ++ WM q2 cy v))) H := hP
  have hD : va_D (l_A s) (WX q cy u1 ++ (IW cy i0 ++ (IW cy i1 ++ WM q2 cy v))) := hD
  have hP := l_toP hP
  have hD := l_toD hD
  refine lv_aload_n hx hb dL_law_434 rfl (lv_at hl 2 rfl) ?_
  refine lv_aload_n hx hb dL_law_435 rfl (lv_at hl 0 rfl) ?_
  refine lv_iload_n hx hb dL_law_436 rfl (lv_at hl 3 rfl) ?_
  refine lv_iconst (v := 1) hx hb dL_law_437 (by decide) ?_
  refine lv_iadd hx hb dL_law_438 ?_
  refine va_sld hx hb hX hbl hbA hS (l_in (k := 1) hi hL (by decide)) dL_law_439 ?_
  refine lv_aload_n hx hb dL_law_440 rfl (lv_at hl 0 rfl) ?_
  refine lv_iload_n hx hb dL_law_441 rfl (lv_at hl 3 rfl) ?_
  refine lv_iconst (v := 2) hx hb dL_law_442 (by decide) ?_
  refine lv_iadd hx hb dL_law_443 ?_
  refine va_sld hx hb hX hbl hbA hS (l_in (k := 2) hi hL (by decide)) dL_law_444 ?_
  refine lv_aload_n hx hb dL_law_445 rfl (lv_at hl 0 rfl) ?_
  refine lv_iload_n hx hb dL_law_446 rfl (lv_at hl 3 rfl) ?_
  refine lv_iconst (v := 3) hx hb dL_law_447 (by decide) ?_
  refine lv_iadd hx hb dL_law_448 ?_
  refine va_sld hx hb hX hbl hbA hS (l_in (k := 3) hi hL (by decide)) dL_law_449 ?_
  refine lv_aload_n hx hb dL_law_450 rfl (lv_at hl 0 rfl) ?_
  refine lv_iload_n hx hb dL_law_451 rfl (lv_at hl 3 rfl) ?_
  refine lv_iconst (v := 4) hx hb dL_law_452 (by decide) ?_
  refine lv_iadd hx hb dL_law_453 ?_
  refine va_sld hx hb hX hbl hbA hS (l_in (k := 4) hi hL (by decide)) dL_law_454 ?_
  refine k_goi (va_runV (As := [.int (xs ((nI i) + 1).toNatClampNeg), .int (xs ((nI i) + 2).toNatClampNeg), .int (xs ((nI i) + 3).toNatClampNeg), .int (xs ((nI i) + 4).toNatClampNeg)]) (rest := [.int r]) ⟨hx, hb, hml, hown, hts⟩ (zX6_gives l D cy sa q2 (WX q cy u1 ++ (IW cy i0 ++ IW cy i1)) H.size v (xs ((nI i) + 1).toNatClampNeg) (xs ((nI i) + 2).toNatClampNeg) (xs ((nI i) + 3).toNatClampNeg) (xs ((nI i) + 4).toNatClampNeg) (r, v1) e2) (cwV 4 hts (gB_V wB434 wB435 wB436 wB5 wB437) rfl rfl rfl (by decide +kernel) ⟨Nat.le_of_ble_eq_true rfl, Nat.le_of_ble_eq_true rfl⟩) ⟨kP.blind, k_recv hE hP (ci := 6) (q0 := 0) rfl rfl, k_pre hP hD hS hE hA⟩ rfl rfl hl.1 rfl (lv_room (Nat.le_of_ble_eq_true rfl)) dL_law_455 ⟨hcs, hss⟩) hD hS hA (fun H locs hP hD hS => ?_)
  have hP : va_P D vwCl (WM q2 cy v1 ++ (WX q cy u1 ++ (IW cy i0 ++ IW cy i1))) H := hP
  have hD : va_D (l_A s) (WM q2 cy v1 ++ (WX q cy u1 ++ (IW cy i0 ++ IW cy i1))) := hD
  have hP := l_ofP hP
  have hD := l_ofD hD
  refine lv_icmp_eq (tgt := 1123) hx hb dL_law_458 (by decide) (fun c9 => ?_) (fun c9 => absurd rfl c9)
  refine va_forget hS.2.2 ?_
  have hS : va_S (l_A s) s.heap H [] := ⟨hS.1, hS.2.1, fun l h => by cases h⟩
  exact K u1 v1 _ hR1 hO hP hD hS
set_option maxHeartbeats 1000000 in
theorem lc_smoke (hx : p.tables.exec = Jvm.exec) (hb : c.code = code) (hml : c.maxLocals = 4) (hown : s.vm.findClass RL = some m.cls) (hts : ∀ w ∈ wsL_law, w.before #[Value.ref b] s = true) (hX : va_X b L xs s s.heap) (hbl : b < s.heap.size) (hE : kE D cy sa (l_A s) s s.heap) (hi : i + 5 ≤ L) (hL : L ≤ 2560) (hcs : cells ≤ room_1.cells) (hss : slots ≤ room_1.slots) (hM : LM_smoke R) (hR : R u (i0.map Prod.snd) (i1.map Prod.snd) v) (hP : va_P D vwCl (LWd q q2 cy u v i0 i1) H) (hD : va_D (l_A s) (LWd q q2 cy u v i0 i1)) (hS : va_S (l_A s) s.heap H []) (hl : lv_has ls 4 [(0, .ref b), (1, .ref (q 0)), (2, .ref (q2 0)), (3, .int (nI i))]) (K : ∀ (u1 v1 : KS) (H : Heap), R u1 (i0.map Prod.snd) (i1.map Prod.snd) v1 → gO u1 = gO u → va_P D vwCl (LWd q q2 cy u1 v1 i0 i1) H → va_D (l_A s) (LWd q q2 cy u1 v1 i0 i1) → va_S (l_A s) s.heap H [] → W p l e room_1 s m #[Value.ref b] below meth c H [] cells slots Z (F0 m 1123 ls [])) : W p l e room_1 s m #[Value.ref b] below meth c H [] cells slots Z (F0 m 463 ls []) := by
  have hA : ∀ x : Nat, s.heap.size ≤ x → l_A s x := fun x h => h
  have hbA : ¬ l_A s b := Nat.not_le.mpr hbl
  obtain ⟨r, u1, v1, e1, e2, hR1, hO⟩ := hM u _ _ v (xs ((nI i) + 1).toNatClampNeg) (xs ((nI i) + 2).toNatClampNeg) (xs ((nI i) + 3).toNatClampNeg) hR
  have hP : va_P D vwCl (WX q cy u ++ (IW cy i0 ++ (IW cy i1 ++ WM q2 cy v))) H := hP
  have hD : va_D (l_A s) (WX q cy u ++ (IW cy i0 ++ (IW cy i1 ++ WM q2 cy v))) := hD
  refine lv_aload_n hx hb dL_law_463 rfl (lv_at hl 1 rfl) ?_
  refine lv_aload_n hx hb dL_law_464 rfl (lv_at hl 0 rfl) ?_
  refine lv_iload_n hx hb dL_law_465 rfl (lv_at hl 3 rfl) ?_
  refine lv_iconst (v := 1) hx hb dL_law_466 (by decide) ?_
  refine lv_iadd hx hb dL_law_467 ?_
  refine va_sld hx hb hX hbl hbA hS (l_in (k := 1) hi hL (by decide)) dL_law_468 ?_
  refine lv_aload_n hx hb dL_law_469 rfl (lv_at hl 0 rfl) ?_
  refine lv_iload_n hx hb dL_law_470 rfl (lv_at hl 3 rfl) ?_
  refine lv_iconst (v := 2) hx hb dL_law_471 (by decide) ?_
  refine lv_iadd hx hb dL_law_472 ?_
  refine va_sld hx hb hX hbl hbA hS (l_in (k := 2) hi hL (by decide)) dL_law_473 ?_
  refine lv_aload_n hx hb dL_law_474 rfl (lv_at hl 0 rfl) ?_
  refine lv_iload_n hx hb dL_law_475 rfl (lv_at hl 3 rfl) ?_
  refine lv_iconst (v := 3) hx hb dL_law_476 (by decide) ?_
  refine lv_iadd hx hb dL_law_477 ?_
  refine va_sld hx hb hX hbl hbA hS (l_in (k := 3) hi hL (by decide)) dL_law_478 ?_
  refine k_goi (va_runV (As := [.int (xs ((nI i) + 1).toNatClampNeg), .int (xs ((nI i) + 2).toNatClampNeg), .int (xs ((nI i) + 3).toNatClampNeg)]) (rest := []) ⟨hx, hb, hml, hown, hts⟩ (zX5_smoke l D cy sa q (IW cy i0 ++ (IW cy i1 ++ WM q2 cy v)) H.size u (xs ((nI i) + 1).toNatClampNeg) (xs ((nI i) + 2).toNatClampNeg) (xs ((nI i) + 3).toNatClampNeg) (r, u1) e1) (cwV 3 hts (gB_V wB446 wB447 wB448 wB2 wB449) rfl rfl rfl (by decide +kernel) ⟨Nat.le_of_ble_eq_true rfl, Nat.le_of_ble_eq_true rfl⟩) ⟨kP.blind, k_recv hE hP (ci := 5) (q0 := 0) rfl rfl, k_pre hP hD hS hE hA⟩ rfl rfl hl.1 rfl (lv_room (Nat.le_of_ble_eq_true rfl)) dL_law_479 ⟨hcs, hss⟩) hD hS hA (fun H locs hP hD hS => ?_)
  have hP : va_P D vwCl (WX q cy u1 ++ (IW cy i0 ++ (IW cy i1 ++ WM q2 cy v))) H := hP
  have hD : va_D (l_A s) (WX q cy u1 ++ (IW cy i0 ++ (IW cy i1 ++ WM q2 cy v))) := hD
  have hP := l_toP hP
  have hD := l_toD hD
  refine lv_aload_n hx hb dL_law_482 rfl (lv_at hl 2 rfl) ?_
  refine lv_aload_n hx hb dL_law_483 rfl (lv_at hl 0 rfl) ?_
  refine lv_iload_n hx hb dL_law_484 rfl (lv_at hl 3 rfl) ?_
  refine lv_iconst (v := 1) hx hb dL_law_485 (by decide) ?_
  refine lv_iadd hx hb dL_law_486 ?_
  refine va_sld hx hb hX hbl hbA hS (l_in (k := 1) hi hL (by decide)) dL_law_487 ?_
  refine lv_aload_n hx hb dL_law_488 rfl (lv_at hl 0 rfl) ?_
  refine lv_iload_n hx hb dL_law_489 rfl (lv_at hl 3 rfl) ?_
  refine lv_iconst (v := 2) hx hb dL_law_490 (by decide) ?_
  refine lv_iadd hx hb dL_law_491 ?_
  refine va_sld hx hb hX hbl hbA hS (l_in (k := 2) hi hL (by decide)) dL_law_492 ?_
  refine lv_aload_n hx hb dL_law_493 rfl (lv_at hl 0 rfl) ?_
  refine lv_iload_n hx hb dL_law_494 rfl (lv_at hl 3 rfl) ?_
  refine lv_iconst (v := 3) hx hb dL_law_495 (by decide) ?_
  refine lv_iadd hx hb dL_law_496 ?_
  refine va_sld hx hb hX hbl hbA hS (l_in (k := 3) hi hL (by decide)) dL_law_497 ?_
  refine k_goi (va_runV (As := [.int (xs ((nI i) + 1).toNatClampNeg), .int (xs ((nI i) + 2).toNatClampNeg), .int (xs ((nI i) + 3).toNatClampNeg)]) (rest := [.int r]) ⟨hx, hb, hml, hown, hts⟩ (zX6_smoke l D cy sa q2 (WX q cy u1 ++ (IW cy i0 ++ IW cy i1)) H.size v (xs ((nI i) + 1).toNatClampNeg) (xs ((nI i) + 2).toNatClampNeg) (xs ((nI i) + 3).toNatClampNeg) (r, v1) e2) (cwV 3 hts (gB_V wB457 wB458 wB459 wB5 wB460) rfl rfl rfl (by decide +kernel) ⟨Nat.le_of_ble_eq_true rfl, Nat.le_of_ble_eq_true rfl⟩) ⟨kP.blind, k_recv hE hP (ci := 6) (q0 := 0) rfl rfl, k_pre hP hD hS hE hA⟩ rfl rfl hl.1 rfl (lv_room (Nat.le_of_ble_eq_true rfl)) dL_law_498 ⟨hcs, hss⟩) hD hS hA (fun H locs hP hD hS => ?_)
  have hP : va_P D vwCl (WM q2 cy v1 ++ (WX q cy u1 ++ (IW cy i0 ++ IW cy i1))) H := hP
  have hD : va_D (l_A s) (WM q2 cy v1 ++ (WX q cy u1 ++ (IW cy i0 ++ IW cy i1))) := hD
  have hP := l_ofP hP
  have hD := l_ofD hD
  refine lv_icmp_eq (tgt := 1123) hx hb dL_law_501 (by decide) (fun c9 => ?_) (fun c9 => absurd rfl c9)
  refine va_forget hS.2.2 ?_
  have hS : va_S (l_A s) s.heap H [] := ⟨hS.1, hS.2.1, fun l h => by cases h⟩
  exact K u1 v1 _ hR1 hO hP hD hS
set_option maxHeartbeats 1000000 in
theorem lc_goes (hx : p.tables.exec = Jvm.exec) (hb : c.code = code) (hml : c.maxLocals = 4) (hown : s.vm.findClass RL = some m.cls) (hts : ∀ w ∈ wsL_law, w.before #[Value.ref b] s = true) (hX : va_X b L xs s s.heap) (hbl : b < s.heap.size) (hE : kE D cy sa (l_A s) s s.heap) (hi : i + 5 ≤ L) (hL : L ≤ 2560) (hcs : cells ≤ room_1.cells) (hss : slots ≤ room_1.slots) (hM : LM_goes R) (hR : R u (i0.map Prod.snd) (i1.map Prod.snd) v) (hP : va_P D vwCl (LWd q q2 cy u v i0 i1) H) (hD : va_D (l_A s) (LWd q q2 cy u v i0 i1)) (hS : va_S (l_A s) s.heap H []) (hl : lv_has ls 4 [(0, .ref b), (1, .ref (q 0)), (2, .ref (q2 0)), (3, .int (nI i))]) (K : ∀ (u1 v1 : KS) (H : Heap), R u1 (i0.map Prod.snd) (i1.map Prod.snd) v1 → gO u1 = gO u → va_P D vwCl (LWd q q2 cy u1 v1 i0 i1) H → va_D (l_A s) (LWd q q2 cy u1 v1 i0 i1) → va_S (l_A s) s.heap H [] → W p l e room_1 s m #[Value.ref b] below meth c H [] cells slots Z (F0 m 1123 ls [])) : W p l e room_1 s m #[Value.ref b] below meth c H [] cells slots Z (F0 m 506 ls []) := by
  have hA : ∀ x : Nat, s.heap.size ≤ x → l_A s x := fun x h => h
  have hbA : ¬ l_A s b := Nat.not_le.mpr hbl
  obtain ⟨r, u1, v1, e1, e2, hR1, hO⟩ := hM u _ _ v (xs ((nI i) + 1).toNatClampNeg) hR
  have hP : va_P D vwCl (WX q cy u ++ (IW cy i0 ++ (IW cy i1 ++ WM q2 cy v))) H := hP
  have hD : va_D (l_A s) (WX q cy u ++ (IW cy i0 ++ (IW cy i1 ++ WM q2 cy v))) := hD
  refine lv_aload_n hx hb dL_law_506 rfl (lv_at hl 1 rfl) ?_
  refine lv_aload_n hx hb dL_law_507 rfl (lv_at hl 0 rfl) ?_
  refine lv_iload_n hx hb dL_law_508 rfl (lv_at hl 3 rfl) ?_
  refine lv_iconst (v := 1) hx hb dL_law_509 (by decide) ?_
  refine lv_iadd hx hb dL_law_510 ?_
  refine va_sld hx hb hX hbl hbA hS (l_in (k := 1) hi hL (by decide)) dL_law_511 ?_
  refine k_goi (va_runV (As := [.int (xs ((nI i) + 1).toNatClampNeg)]) (rest := []) ⟨hx, hb, hml, hown, hts⟩ (zX5_goes l D cy sa q (IW cy i0 ++ (IW cy i1 ++ WM q2 cy v)) H.size u (xs ((nI i) + 1).toNatClampNeg) (r, u1) e1) (cwV 1 hts (gB_V wB466 wB467 wB468 wB2 wB469) rfl rfl rfl (by decide +kernel) ⟨Nat.le_of_ble_eq_true rfl, Nat.le_of_ble_eq_true rfl⟩) ⟨kP.blind, k_recv hE hP (ci := 5) (q0 := 0) rfl rfl, k_pre hP hD hS hE hA⟩ rfl rfl hl.1 rfl (lv_room (Nat.le_of_ble_eq_true rfl)) dL_law_512 ⟨hcs, hss⟩) hD hS hA (fun H locs hP hD hS => ?_)
  have hP : va_P D vwCl (WX q cy u1 ++ (IW cy i0 ++ (IW cy i1 ++ WM q2 cy v))) H := hP
  have hD : va_D (l_A s) (WX q cy u1 ++ (IW cy i0 ++ (IW cy i1 ++ WM q2 cy v))) := hD
  have hP := l_toP hP
  have hD := l_toD hD
  refine lv_aload_n hx hb dL_law_515 rfl (lv_at hl 2 rfl) ?_
  refine lv_aload_n hx hb dL_law_516 rfl (lv_at hl 0 rfl) ?_
  refine lv_iload_n hx hb dL_law_517 rfl (lv_at hl 3 rfl) ?_
  refine lv_iconst (v := 1) hx hb dL_law_518 (by decide) ?_
  refine lv_iadd hx hb dL_law_519 ?_
  refine va_sld hx hb hX hbl hbA hS (l_in (k := 1) hi hL (by decide)) dL_law_520 ?_
  refine k_goi (va_runV (As := [.int (xs ((nI i) + 1).toNatClampNeg)]) (rest := [.int r]) ⟨hx, hb, hml, hown, hts⟩ (zX6_goes l D cy sa q2 (WX q cy u1 ++ (IW cy i0 ++ IW cy i1)) H.size v (xs ((nI i) + 1).toNatClampNeg) (r, v1) e2) (cwV 1 hts (gB_V wB470 wB471 wB472 wB5 wB473) rfl rfl rfl (by decide +kernel) ⟨Nat.le_of_ble_eq_true rfl, Nat.le_of_ble_eq_true rfl⟩) ⟨kP.blind, k_recv hE hP (ci := 6) (q0 := 0) rfl rfl, k_pre hP hD hS hE hA⟩ rfl rfl hl.1 rfl (lv_room (Nat.le_of_ble_eq_true rfl)) dL_law_521 ⟨hcs, hss⟩) hD hS hA (fun H locs hP hD hS => ?_)
  have hP : va_P D vwCl (WM q2 cy v1 ++ (WX q cy u1 ++ (IW cy i0 ++ IW cy i1))) H := hP
  have hD : va_D (l_A s) (WM q2 cy v1 ++ (WX q cy u1 ++ (IW cy i0 ++ IW cy i1))) := hD
  have hP := l_ofP hP
  have hD := l_ofD hD
  refine lv_icmp_eq (tgt := 1123) hx hb dL_law_524 (by decide) (fun c9 => ?_) (fun c9 => absurd rfl c9)
  refine va_forget hS.2.2 ?_
  have hS : va_S (l_A s) s.heap H [] := ⟨hS.1, hS.2.1, fun l h => by cases h⟩
  exact K u1 v1 _ hR1 hO hP hD hS
set_option maxHeartbeats 1000000 in
theorem lc_look (hx : p.tables.exec = Jvm.exec) (hb : c.code = code) (hml : c.maxLocals = 4) (hown : s.vm.findClass RL = some m.cls) (hts : ∀ w ∈ wsL_law, w.before #[Value.ref b] s = true) (hX : va_X b L xs s s.heap) (hbl : b < s.heap.size) (hE : kE D cy sa (l_A s) s s.heap) (hi : i + 5 ≤ L) (hL : L ≤ 2560) (hcs : cells ≤ room_1.cells) (hss : slots ≤ room_1.slots) (hM : LM_look R) (hR : R u (i0.map Prod.snd) (i1.map Prod.snd) v) (hP : va_P D vwCl (LWd q q2 cy u v i0 i1) H) (hD : va_D (l_A s) (LWd q q2 cy u v i0 i1)) (hS : va_S (l_A s) s.heap H []) (hl : lv_has ls 4 [(0, .ref b), (1, .ref (q 0)), (2, .ref (q2 0)), (3, .int (nI i))]) (K : ∀ (u1 v1 : KS) (H : Heap), R u1 (i0.map Prod.snd) (i1.map Prod.snd) v1 → gO u1 = gO u → va_P D vwCl (LWd q q2 cy u1 v1 i0 i1) H → va_D (l_A s) (LWd q q2 cy u1 v1 i0 i1) → va_S (l_A s) s.heap H [] → W p l e room_1 s m #[Value.ref b] below meth c H [] cells slots Z (F0 m 1123 ls [])) : W p l e room_1 s m #[Value.ref b] below meth c H [] cells slots Z (F0 m 529 ls []) := by
  have hA : ∀ x : Nat, s.heap.size ≤ x → l_A s x := fun x h => h
  have hbA : ¬ l_A s b := Nat.not_le.mpr hbl
  obtain ⟨r, u1, v1, e1, e2, hR1, hO⟩ := hM u _ _ v (xs ((nI i) + 1).toNatClampNeg) (xs ((nI i) + 2).toNatClampNeg) (xs ((nI i) + 3).toNatClampNeg) (xs ((nI i) + 4).toNatClampNeg) hR
  have hP : va_P D vwCl (WX q cy u ++ (IW cy i0 ++ (IW cy i1 ++ WM q2 cy v))) H := hP
  have hD : va_D (l_A s) (WX q cy u ++ (IW cy i0 ++ (IW cy i1 ++ WM q2 cy v))) := hD
  refine lv_aload_n hx hb dL_law_529 rfl (lv_at hl 1 rfl) ?_
  refine lv_aload_n hx hb dL_law_530 rfl (lv_at hl 0 rfl) ?_
  refine lv_iload_n hx hb dL_law_531 rfl (lv_at hl 3 rfl) ?_
  refine lv_iconst (v := 1) hx hb dL_law_532 (by decide) ?_
  refine lv_iadd hx hb dL_law_533 ?_
  refine va_sld hx hb hX hbl hbA hS (l_in (k := 1) hi hL (by decide)) dL_law_534 ?_
  refine lv_aload_n hx hb dL_law_535 rfl (lv_at hl 0 rfl) ?_
  refine lv_iload_n hx hb dL_law_536 rfl (lv_at hl 3 rfl) ?_
  refine lv_iconst (v := 2) hx hb dL_law_537 (by decide) ?_
  refine lv_iadd hx hb dL_law_538 ?_
  refine va_sld hx hb hX hbl hbA hS (l_in (k := 2) hi hL (by decide)) dL_law_539 ?_
  refine lv_aload_n hx hb dL_law_540 rfl (lv_at hl 0 rfl) ?_
  refine lv_iload_n hx hb dL_law_541 rfl (lv_at hl 3 rfl) ?_
  refine lv_iconst (v := 3) hx hb dL_law_542 (by decide) ?_
  refine lv_iadd hx hb dL_law_543 ?_
  refine va_sld hx hb hX hbl hbA hS (l_in (k := 3) hi hL (by decide)) dL_law_544 ?_
  refine lv_aload_n hx hb dL_law_545 rfl (lv_at hl 0 rfl) ?_
  refine lv_iload_n hx hb dL_law_546 rfl (lv_at hl 3 rfl) ?_
  refine lv_iconst (v := 4) hx hb dL_law_547 (by decide) ?_
  refine lv_iadd hx hb dL_law_548 ?_
  refine va_sld hx hb hX hbl hbA hS (l_in (k := 4) hi hL (by decide)) dL_law_549 ?_
  refine k_goi (va_runV (As := [.int (xs ((nI i) + 1).toNatClampNeg), .int (xs ((nI i) + 2).toNatClampNeg), .int (xs ((nI i) + 3).toNatClampNeg), .int (xs ((nI i) + 4).toNatClampNeg)]) (rest := []) ⟨hx, hb, hml, hown, hts⟩ (zX5_look l D cy sa q (IW cy i0 ++ (IW cy i1 ++ WM q2 cy v)) H.size u (xs ((nI i) + 1).toNatClampNeg) (xs ((nI i) + 2).toNatClampNeg) (xs ((nI i) + 3).toNatClampNeg) (xs ((nI i) + 4).toNatClampNeg) (r, u1) e1) (cwV 4 hts (gB_V wB474 wB475 wB476 wB2 wB477) rfl rfl rfl (by decide +kernel) ⟨Nat.le_of_ble_eq_true rfl, Nat.le_of_ble_eq_true rfl⟩) ⟨kP.blind, k_recv hE hP (ci := 5) (q0 := 0) rfl rfl, k_pre hP hD hS hE hA⟩ rfl rfl hl.1 rfl (lv_room (Nat.le_of_ble_eq_true rfl)) dL_law_550 ⟨hcs, hss⟩) hD hS hA (fun H locs hP hD hS => ?_)
  have hP : va_P D vwCl (WX q cy u1 ++ (IW cy i0 ++ (IW cy i1 ++ WM q2 cy v))) H := hP
  have hD : va_D (l_A s) (WX q cy u1 ++ (IW cy i0 ++ (IW cy i1 ++ WM q2 cy v))) := hD
  have hP := l_toP hP
  have hD := l_toD hD
  refine lv_aload_n hx hb dL_law_553 rfl (lv_at hl 2 rfl) ?_
  refine lv_aload_n hx hb dL_law_554 rfl (lv_at hl 0 rfl) ?_
  refine lv_iload_n hx hb dL_law_555 rfl (lv_at hl 3 rfl) ?_
  refine lv_iconst (v := 1) hx hb dL_law_556 (by decide) ?_
  refine lv_iadd hx hb dL_law_557 ?_
  refine va_sld hx hb hX hbl hbA hS (l_in (k := 1) hi hL (by decide)) dL_law_558 ?_
  refine lv_aload_n hx hb dL_law_559 rfl (lv_at hl 0 rfl) ?_
  refine lv_iload_n hx hb dL_law_560 rfl (lv_at hl 3 rfl) ?_
  refine lv_iconst (v := 2) hx hb dL_law_561 (by decide) ?_
  refine lv_iadd hx hb dL_law_562 ?_
  refine va_sld hx hb hX hbl hbA hS (l_in (k := 2) hi hL (by decide)) dL_law_563 ?_
  refine lv_aload_n hx hb dL_law_564 rfl (lv_at hl 0 rfl) ?_
  refine lv_iload_n hx hb dL_law_565 rfl (lv_at hl 3 rfl) ?_
  refine lv_iconst (v := 3) hx hb dL_law_566 (by decide) ?_
  refine lv_iadd hx hb dL_law_567 ?_
  refine va_sld hx hb hX hbl hbA hS (l_in (k := 3) hi hL (by decide)) dL_law_568 ?_
  refine lv_aload_n hx hb dL_law_569 rfl (lv_at hl 0 rfl) ?_
  refine lv_iload_n hx hb dL_law_570 rfl (lv_at hl 3 rfl) ?_
  refine lv_iconst (v := 4) hx hb dL_law_571 (by decide) ?_
  refine lv_iadd hx hb dL_law_572 ?_
  refine va_sld hx hb hX hbl hbA hS (l_in (k := 4) hi hL (by decide)) dL_law_573 ?_
  refine k_goi (va_runV (As := [.int (xs ((nI i) + 1).toNatClampNeg), .int (xs ((nI i) + 2).toNatClampNeg), .int (xs ((nI i) + 3).toNatClampNeg), .int (xs ((nI i) + 4).toNatClampNeg)]) (rest := [.int r]) ⟨hx, hb, hml, hown, hts⟩ (zX6_look l D cy sa q2 (WX q cy u1 ++ (IW cy i0 ++ IW cy i1)) H.size v (xs ((nI i) + 1).toNatClampNeg) (xs ((nI i) + 2).toNatClampNeg) (xs ((nI i) + 3).toNatClampNeg) (xs ((nI i) + 4).toNatClampNeg) (r, v1) e2) (cwV 4 hts (gB_V wB480 wB481 wB482 wB5 wB483) rfl rfl rfl (by decide +kernel) ⟨Nat.le_of_ble_eq_true rfl, Nat.le_of_ble_eq_true rfl⟩) ⟨kP.blind, k_recv hE hP (ci := 6) (q0 := 0) rfl rfl, k_pre hP hD hS hE hA⟩ rfl rfl hl.1 rfl (lv_room (Nat.le_of_ble_eq_true rfl)) dL_law_574 ⟨hcs, hss⟩) hD hS hA (fun H locs hP hD hS => ?_)
  have hP : va_P D vwCl (WM q2 cy v1 ++ (WX q cy u1 ++ (IW cy i0 ++ IW cy i1))) H := hP
  have hD : va_D (l_A s) (WM q2 cy v1 ++ (WX q cy u1 ++ (IW cy i0 ++ IW cy i1))) := hD
  have hP := l_ofP hP
  have hD := l_ofD hD
  refine lv_icmp_eq (tgt := 1123) hx hb dL_law_577 (by decide) (fun c9 => ?_) (fun c9 => absurd rfl c9)
  refine va_forget hS.2.2 ?_
  have hS : va_S (l_A s) s.heap H [] := ⟨hS.1, hS.2.1, fun l h => by cases h⟩
  exact K u1 v1 _ hR1 hO hP hD hS
set_option maxHeartbeats 1000000 in
theorem lc_forget (hx : p.tables.exec = Jvm.exec) (hb : c.code = code) (hml : c.maxLocals = 4) (hown : s.vm.findClass RL = some m.cls) (hts : ∀ w ∈ wsL_law, w.before #[Value.ref b] s = true) (hX : va_X b L xs s s.heap) (hbl : b < s.heap.size) (hE : kE D cy sa (l_A s) s s.heap) (hi : i + 5 ≤ L) (hL : L ≤ 2560) (hcs : cells ≤ room_1.cells) (hss : slots ≤ room_1.slots) (hM : LM_forget R) (hR : R u (i0.map Prod.snd) (i1.map Prod.snd) v) (hP : va_P D vwCl (LWd q q2 cy u v i0 i1) H) (hD : va_D (l_A s) (LWd q q2 cy u v i0 i1)) (hS : va_S (l_A s) s.heap H []) (hl : lv_has ls 4 [(0, .ref b), (1, .ref (q 0)), (2, .ref (q2 0)), (3, .int (nI i))]) (K : ∀ (u1 v1 : KS) (H : Heap), R u1 (i0.map Prod.snd) (i1.map Prod.snd) v1 → gO u1 = gO u → va_P D vwCl (LWd q q2 cy u1 v1 i0 i1) H → va_D (l_A s) (LWd q q2 cy u1 v1 i0 i1) → va_S (l_A s) s.heap H [] → W p l e room_1 s m #[Value.ref b] below meth c H [] cells slots Z (F0 m 1123 ls [])) : W p l e room_1 s m #[Value.ref b] below meth c H [] cells slots Z (F0 m 582 ls []) := by
  have hA : ∀ x : Nat, s.heap.size ≤ x → l_A s x := fun x h => h
  have hbA : ¬ l_A s b := Nat.not_le.mpr hbl
  obtain ⟨r, u1, v1, e1, e2, hR1, hO⟩ := hM u _ _ v  hR
  have hP : va_P D vwCl (WX q cy u ++ (IW cy i0 ++ (IW cy i1 ++ WM q2 cy v))) H := hP
  have hD : va_D (l_A s) (WX q cy u ++ (IW cy i0 ++ (IW cy i1 ++ WM q2 cy v))) := hD
  refine lv_aload_n hx hb dL_law_582 rfl (lv_at hl 1 rfl) ?_
  refine k_goi (va_runV (As := []) (rest := []) ⟨hx, hb, hml, hown, hts⟩ (zX5_forget l D cy sa q (IW cy i0 ++ (IW cy i1 ++ WM q2 cy v)) H.size u  (r, u1) e1) (cwV 0 hts (gB_V wB486 wB487 wB488 wB2 wB489) rfl rfl rfl (by decide +kernel) ⟨Nat.le_of_ble_eq_true rfl, Nat.le_of_ble_eq_true rfl⟩) ⟨kP.blind, k_recv hE hP (ci := 5) (q0 := 0) rfl rfl, k_pre hP hD hS hE hA⟩ rfl rfl hl.1 rfl (lv_room (Nat.le_of_ble_eq_true rfl)) dL_law_583 ⟨hcs, hss⟩) hD hS hA (fun H locs hP hD hS => ?_)
  have hP : va_P D vwCl (WX q cy u1 ++ (IW cy i0 ++ (IW cy i1 ++ WM q2 cy v))) H := hP
  have hD : va_D (l_A s) (WX q cy u1 ++ (IW cy i0 ++ (IW cy i1 ++ WM q2 cy v))) := hD
  have hP := l_toP hP
  have hD := l_toD hD
  refine lv_aload_n hx hb dL_law_586 rfl (lv_at hl 2 rfl) ?_
  refine k_goi (va_runV (As := []) (rest := [.int r]) ⟨hx, hb, hml, hown, hts⟩ (zX6_forget l D cy sa q2 (WX q cy u1 ++ (IW cy i0 ++ IW cy i1)) H.size v  (r, v1) e2) (cwV 0 hts (gB_V wB490 wB491 wB492 wB5 wB493) rfl rfl rfl (by decide +kernel) ⟨Nat.le_of_ble_eq_true rfl, Nat.le_of_ble_eq_true rfl⟩) ⟨kP.blind, k_recv hE hP (ci := 6) (q0 := 0) rfl rfl, k_pre hP hD hS hE hA⟩ rfl rfl hl.1 rfl (lv_room (Nat.le_of_ble_eq_true rfl)) dL_law_587 ⟨hcs, hss⟩) hD hS hA (fun H locs hP hD hS => ?_)
  have hP : va_P D vwCl (WM q2 cy v1 ++ (WX q cy u1 ++ (IW cy i0 ++ IW cy i1))) H := hP
  have hD : va_D (l_A s) (WM q2 cy v1 ++ (WX q cy u1 ++ (IW cy i0 ++ IW cy i1))) := hD
  have hP := l_ofP hP
  have hD := l_ofD hD
  refine lv_icmp_eq (tgt := 1123) hx hb dL_law_590 (by decide) (fun c9 => ?_) (fun c9 => absurd rfl c9)
  refine va_forget hS.2.2 ?_
  have hS : va_S (l_A s) s.heap H [] := ⟨hS.1, hS.2.1, fun l h => by cases h⟩
  exact K u1 v1 _ hR1 hO hP hD hS
set_option maxHeartbeats 1000000 in
theorem lc_odds (hx : p.tables.exec = Jvm.exec) (hb : c.code = code) (hml : c.maxLocals = 4) (hown : s.vm.findClass RL = some m.cls) (hts : ∀ w ∈ wsL_law, w.before #[Value.ref b] s = true) (hX : va_X b L xs s s.heap) (hbl : b < s.heap.size) (hE : kE D cy sa (l_A s) s s.heap) (hi : i + 5 ≤ L) (hL : L ≤ 2560) (hcs : cells ≤ room_1.cells) (hss : slots ≤ room_1.slots) (hM : LM_odds R) (hR : R u (i0.map Prod.snd) (i1.map Prod.snd) v) (hP : va_P D vwCl (LWd q q2 cy u v i0 i1) H) (hD : va_D (l_A s) (LWd q q2 cy u v i0 i1)) (hS : va_S (l_A s) s.heap H []) (hl : lv_has ls 4 [(0, .ref b), (1, .ref (q 0)), (2, .ref (q2 0)), (3, .int (nI i))]) (K : ∀ (u1 v1 : KS) (H : Heap), R u1 (i0.map Prod.snd) (i1.map Prod.snd) v1 → gO u1 = gO u → va_P D vwCl (LWd q q2 cy u1 v1 i0 i1) H → va_D (l_A s) (LWd q q2 cy u1 v1 i0 i1) → va_S (l_A s) s.heap H [] → W p l e room_1 s m #[Value.ref b] below meth c H [] cells slots Z (F0 m 1123 ls [])) : W p l e room_1 s m #[Value.ref b] below meth c H [] cells slots Z (F0 m 595 ls []) := by
  have hA : ∀ x : Nat, s.heap.size ≤ x → l_A s x := fun x h => h
  have hbA : ¬ l_A s b := Nat.not_le.mpr hbl
  obtain ⟨r, u1, v1, e1, e2, hR1, hO⟩ := hM u _ _ v (xs ((nI i) + 1).toNatClampNeg) (xs ((nI i) + 2).toNatClampNeg) hR
  have hP : va_P D vwCl (WX q cy u ++ (IW cy i0 ++ (IW cy i1 ++ WM q2 cy v))) H := hP
  have hD : va_D (l_A s) (WX q cy u ++ (IW cy i0 ++ (IW cy i1 ++ WM q2 cy v))) := hD
  refine lv_aload_n hx hb dL_law_595 rfl (lv_at hl 1 rfl) ?_
  refine lv_aload_n hx hb dL_law_596 rfl (lv_at hl 0 rfl) ?_
  refine lv_iload_n hx hb dL_law_597 rfl (lv_at hl 3 rfl) ?_
  refine lv_iconst (v := 1) hx hb dL_law_598 (by decide) ?_
  refine lv_iadd hx hb dL_law_599 ?_
  refine va_sld hx hb hX hbl hbA hS (l_in (k := 1) hi hL (by decide)) dL_law_600 ?_
  refine lv_aload_n hx hb dL_law_601 rfl (lv_at hl 0 rfl) ?_
  refine lv_iload_n hx hb dL_law_602 rfl (lv_at hl 3 rfl) ?_
  refine lv_iconst (v := 2) hx hb dL_law_603 (by decide) ?_
  refine lv_iadd hx hb dL_law_604 ?_
  refine va_sld hx hb hX hbl hbA hS (l_in (k := 2) hi hL (by decide)) dL_law_605 ?_
  refine k_goi (va_runV (As := [.int (xs ((nI i) + 1).toNatClampNeg), .int (xs ((nI i) + 2).toNatClampNeg)]) (rest := []) ⟨hx, hb, hml, hown, hts⟩ (zX5_odds l D cy sa q (IW cy i0 ++ (IW cy i1 ++ WM q2 cy v)) H.size u (xs ((nI i) + 1).toNatClampNeg) (xs ((nI i) + 2).toNatClampNeg) (r, u1) e1) (cwV 2 hts (gB_V wB494 wB495 wB496 wB2 wB497) rfl rfl rfl (by decide +kernel) ⟨Nat.le_of_ble_eq_true rfl, Nat.le_of_ble_eq_true rfl⟩) ⟨kP.blind, k_recv hE hP (ci := 5) (q0 := 0) rfl rfl, k_pre hP hD hS hE hA⟩ rfl rfl hl.1 rfl (lv_room (Nat.le_of_ble_eq_true rfl)) dL_law_606 ⟨hcs, hss⟩) hD hS hA (fun H locs hP hD hS => ?_)
  have hP : va_P D vwCl (WX q cy u1 ++ (IW cy i0 ++ (IW cy i1 ++ WM q2 cy v))) H := hP
  have hD : va_D (l_A s) (WX q cy u1 ++ (IW cy i0 ++ (IW cy i1 ++ WM q2 cy v))) := hD
  have hP := l_toP hP
  have hD := l_toD hD
  refine lv_aload_n hx hb dL_law_609 rfl (lv_at hl 2 rfl) ?_
  refine lv_aload_n hx hb dL_law_610 rfl (lv_at hl 0 rfl) ?_
  refine lv_iload_n hx hb dL_law_611 rfl (lv_at hl 3 rfl) ?_
  refine lv_iconst (v := 1) hx hb dL_law_612 (by decide) ?_
  refine lv_iadd hx hb dL_law_613 ?_
  refine va_sld hx hb hX hbl hbA hS (l_in (k := 1) hi hL (by decide)) dL_law_614 ?_
  refine lv_aload_n hx hb dL_law_615 rfl (lv_at hl 0 rfl) ?_
  refine lv_iload_n hx hb dL_law_616 rfl (lv_at hl 3 rfl) ?_
  refine lv_iconst (v := 2) hx hb dL_law_617 (by decide) ?_
  refine lv_iadd hx hb dL_law_618 ?_
  refine va_sld hx hb hX hbl hbA hS (l_in (k := 2) hi hL (by decide)) dL_law_619 ?_
  refine k_goi (va_runV (As := [.int (xs ((nI i) + 1).toNatClampNeg), .int (xs ((nI i) + 2).toNatClampNeg)]) (rest := [.int r]) ⟨hx, hb, hml, hown, hts⟩ (zX6_odds l D cy sa q2 (WX q cy u1 ++ (IW cy i0 ++ IW cy i1)) H.size v (xs ((nI i) + 1).toNatClampNeg) (xs ((nI i) + 2).toNatClampNeg) (r, v1) e2) (cwV 2 hts (gB_V wB553 wB554 wB555 wB5 wB556) rfl rfl rfl (by decide +kernel) ⟨Nat.le_of_ble_eq_true rfl, Nat.le_of_ble_eq_true rfl⟩) ⟨kP.blind, k_recv hE hP (ci := 6) (q0 := 0) rfl rfl, k_pre hP hD hS hE hA⟩ rfl rfl hl.1 rfl (lv_room (Nat.le_of_ble_eq_true rfl)) dL_law_620 ⟨hcs, hss⟩) hD hS hA (fun H locs hP hD hS => ?_)
  have hP : va_P D vwCl (WM q2 cy v1 ++ (WX q cy u1 ++ (IW cy i0 ++ IW cy i1))) H := hP
  have hD : va_D (l_A s) (WM q2 cy v1 ++ (WX q cy u1 ++ (IW cy i0 ++ IW cy i1))) := hD
  have hP := l_ofP hP
  have hD := l_ofD hD
  refine lv_icmp_eq (tgt := 1123) hx hb dL_law_623 (by decide) (fun c9 => ?_) (fun c9 => absurd rfl c9)
  refine va_forget hS.2.2 ?_
  have hS : va_S (l_A s) s.heap H [] := ⟨hS.1, hS.2.1, fun l h => by cases h⟩
  exact K u1 v1 _ hR1 hO hP hD hS
set_option maxHeartbeats 1000000 in
theorem lc_two (hx : p.tables.exec = Jvm.exec) (hb : c.code = code) (hml : c.maxLocals = 4) (hown : s.vm.findClass RL = some m.cls) (hts : ∀ w ∈ wsL_law, w.before #[Value.ref b] s = true) (hX : va_X b L xs s s.heap) (hbl : b < s.heap.size) (hE : kE D cy sa (l_A s) s s.heap) (hi : i + 5 ≤ L) (hL : L ≤ 2560) (hcs : cells ≤ room_1.cells) (hss : slots ≤ room_1.slots) (hM : LM_two R) (hR : R u (i0.map Prod.snd) (i1.map Prod.snd) v) (hP : va_P D vwCl (LWd q q2 cy u v i0 i1) H) (hD : va_D (l_A s) (LWd q q2 cy u v i0 i1)) (hS : va_S (l_A s) s.heap H []) (hl : lv_has ls 4 [(0, .ref b), (1, .ref (q 0)), (2, .ref (q2 0)), (3, .int (nI i))]) (K : ∀ (u1 v1 : KS) (H : Heap), R u1 (i0.map Prod.snd) (i1.map Prod.snd) v1 → gO u1 = gO u → va_P D vwCl (LWd q q2 cy u1 v1 i0 i1) H → va_D (l_A s) (LWd q q2 cy u1 v1 i0 i1) → va_S (l_A s) s.heap H [] → W p l e room_1 s m #[Value.ref b] below meth c H [] cells slots Z (F0 m 1123 ls [])) : W p l e room_1 s m #[Value.ref b] below meth c H [] cells slots Z (F0 m 628 ls []) := by
  have hA : ∀ x : Nat, s.heap.size ≤ x → l_A s x := fun x h => h
  have hbA : ¬ l_A s b := Nat.not_le.mpr hbl
  obtain ⟨r, u1, v1, e1, e2, hR1, hO⟩ := hM u _ _ v  hR
  have hP : va_P D vwCl (WX q cy u ++ (IW cy i0 ++ (IW cy i1 ++ WM q2 cy v))) H := hP
  have hD : va_D (l_A s) (WX q cy u ++ (IW cy i0 ++ (IW cy i1 ++ WM q2 cy v))) := hD
  refine lv_aload_n hx hb dL_law_628 rfl (lv_at hl 1 rfl) ?_
  refine k_goi (va_runV (As := []) (rest := []) ⟨hx, hb, hml, hown, hts⟩ (zX5_two l D cy sa q (IW cy i0 ++ (IW cy i1 ++ WM q2 cy v)) H.size u  (r, u1) e1) (cwV 0 hts (gB_V wB614 wB615 wB616 wB2 wB617) rfl rfl rfl (by decide +kernel) ⟨Nat.le_of_ble_eq_true rfl, Nat.le_of_ble_eq_true rfl⟩) ⟨kP.blind, k_recv hE hP (ci := 5) (q0 := 0) rfl rfl, k_pre hP hD hS hE hA⟩ rfl rfl hl.1 rfl (lv_room (Nat.le_of_ble_eq_true rfl)) dL_law_629 ⟨hcs, hss⟩) hD hS hA (fun H locs hP hD hS => ?_)
  have hP : va_P D vwCl (WX q cy u1 ++ (IW cy i0 ++ (IW cy i1 ++ WM q2 cy v))) H := hP
  have hD : va_D (l_A s) (WX q cy u1 ++ (IW cy i0 ++ (IW cy i1 ++ WM q2 cy v))) := hD
  have hP := l_toP hP
  have hD := l_toD hD
  refine lv_aload_n hx hb dL_law_632 rfl (lv_at hl 2 rfl) ?_
  refine k_goi (va_runV (As := []) (rest := [.int r]) ⟨hx, hb, hml, hown, hts⟩ (zX6_two l D cy sa q2 (WX q cy u1 ++ (IW cy i0 ++ IW cy i1)) H.size v  (r, v1) e2) (cwV 0 hts (gB_V wB622 wB623 wB624 wB5 wB625) rfl rfl rfl (by decide +kernel) ⟨Nat.le_of_ble_eq_true rfl, Nat.le_of_ble_eq_true rfl⟩) ⟨kP.blind, k_recv hE hP (ci := 6) (q0 := 0) rfl rfl, k_pre hP hD hS hE hA⟩ rfl rfl hl.1 rfl (lv_room (Nat.le_of_ble_eq_true rfl)) dL_law_633 ⟨hcs, hss⟩) hD hS hA (fun H locs hP hD hS => ?_)
  have hP : va_P D vwCl (WM q2 cy v1 ++ (WX q cy u1 ++ (IW cy i0 ++ IW cy i1))) H := hP
  have hD : va_D (l_A s) (WM q2 cy v1 ++ (WX q cy u1 ++ (IW cy i0 ++ IW cy i1))) := hD
  have hP := l_ofP hP
  have hD := l_ofD hD
  refine lv_icmp_eq (tgt := 1123) hx hb dL_law_636 (by decide) (fun c9 => ?_) (fun c9 => absurd rfl c9)
  refine va_forget hS.2.2 ?_
  have hS : va_S (l_A s) s.heap H [] := ⟨hS.1, hS.2.1, fun l h => by cases h⟩
  exact K u1 v1 _ hR1 hO hP hD hS
set_option maxHeartbeats 1000000 in
theorem lc_likeliest (hx : p.tables.exec = Jvm.exec) (hb : c.code = code) (hml : c.maxLocals = 4) (hown : s.vm.findClass RL = some m.cls) (hts : ∀ w ∈ wsL_law, w.before #[Value.ref b] s = true) (hX : va_X b L xs s s.heap) (hbl : b < s.heap.size) (hE : kE D cy sa (l_A s) s s.heap) (hi : i + 5 ≤ L) (hL : L ≤ 2560) (hcs : cells ≤ room_1.cells) (hss : slots ≤ room_1.slots) (hM : LM_likeliest R) (hR : R u (i0.map Prod.snd) (i1.map Prod.snd) v) (hP : va_P D vwCl (LWd q q2 cy u v i0 i1) H) (hD : va_D (l_A s) (LWd q q2 cy u v i0 i1)) (hS : va_S (l_A s) s.heap H []) (hl : lv_has ls 4 [(0, .ref b), (1, .ref (q 0)), (2, .ref (q2 0)), (3, .int (nI i))]) (K : ∀ (u1 v1 : KS) (H : Heap), R u1 (i0.map Prod.snd) (i1.map Prod.snd) v1 → gO u1 = gO u → va_P D vwCl (LWd q q2 cy u1 v1 i0 i1) H → va_D (l_A s) (LWd q q2 cy u1 v1 i0 i1) → va_S (l_A s) s.heap H [] → W p l e room_1 s m #[Value.ref b] below meth c H [] cells slots Z (F0 m 1123 ls [])) : W p l e room_1 s m #[Value.ref b] below meth c H [] cells slots Z (F0 m 641 ls []) := by
  have hA : ∀ x : Nat, s.heap.size ≤ x → l_A s x := fun x h => h
  have hbA : ¬ l_A s b := Nat.not_le.mpr hbl
  obtain ⟨r, u1, v1, e1, e2, hR1, hO⟩ := hM u _ _ v  hR
  have hP : va_P D vwCl (WX q cy u ++ (IW cy i0 ++ (IW cy i1 ++ WM q2 cy v))) H := hP
  have hD : va_D (l_A s) (WX q cy u ++ (IW cy i0 ++ (IW cy i1 ++ WM q2 cy v))) := hD
  refine lv_aload_n hx hb dL_law_641 rfl (lv_at hl 1 rfl) ?_
  refine k_goi (va_runV (As := []) (rest := []) ⟨hx, hb, hml, hown, hts⟩ (zX5_likeliest l D cy sa q (IW cy i0 ++ (IW cy i1 ++ WM q2 cy v)) H.size u  (r, u1) e1) (cwV 0 hts (gB_V wB626 wB627 wB628 wB2 wB629) rfl rfl rfl (by decide +kernel) ⟨Nat.le_of_ble_eq_true rfl, Nat.le_of_ble_eq_true rfl⟩) ⟨kP.blind, k_recv hE hP (ci := 5) (q0 := 0) rfl rfl, k_pre hP hD hS hE hA⟩ rfl rfl hl.1 rfl (lv_room (Nat.le_of_ble_eq_true rfl)) dL_law_642 ⟨hcs, hss⟩) hD hS hA (fun H locs hP hD hS => ?_)
  have hP : va_P D vwCl (WX q cy u1 ++ (IW cy i0 ++ (IW cy i1 ++ WM q2 cy v))) H := hP
  have hD : va_D (l_A s) (WX q cy u1 ++ (IW cy i0 ++ (IW cy i1 ++ WM q2 cy v))) := hD
  have hP := l_toP hP
  have hD := l_toD hD
  refine lv_aload_n hx hb dL_law_645 rfl (lv_at hl 2 rfl) ?_
  refine k_goi (va_runV (As := []) (rest := [.int r]) ⟨hx, hb, hml, hown, hts⟩ (zX6_likeliest l D cy sa q2 (WX q cy u1 ++ (IW cy i0 ++ IW cy i1)) H.size v  (r, v1) e2) (cwV 0 hts (gB_V wB636 wB637 wB638 wB5 wB639) rfl rfl rfl (by decide +kernel) ⟨Nat.le_of_ble_eq_true rfl, Nat.le_of_ble_eq_true rfl⟩) ⟨kP.blind, k_recv hE hP (ci := 6) (q0 := 0) rfl rfl, k_pre hP hD hS hE hA⟩ rfl rfl hl.1 rfl (lv_room (Nat.le_of_ble_eq_true rfl)) dL_law_646 ⟨hcs, hss⟩) hD hS hA (fun H locs hP hD hS => ?_)
  have hP : va_P D vwCl (WM q2 cy v1 ++ (WX q cy u1 ++ (IW cy i0 ++ IW cy i1))) H := hP
  have hD : va_D (l_A s) (WM q2 cy v1 ++ (WX q cy u1 ++ (IW cy i0 ++ IW cy i1))) := hD
  have hP := l_ofP hP
  have hD := l_ofD hD
  refine lv_icmp_eq (tgt := 1123) hx hb dL_law_649 (by decide) (fun c9 => ?_) (fun c9 => absurd rfl c9)
  refine va_forget hS.2.2 ?_
  have hS : va_S (l_A s) s.heap H [] := ⟨hS.1, hS.2.1, fun l h => by cases h⟩
  exact K u1 v1 _ hR1 hO hP hD hS
set_option maxHeartbeats 1000000 in
theorem lc_guess (hx : p.tables.exec = Jvm.exec) (hb : c.code = code) (hml : c.maxLocals = 4) (hown : s.vm.findClass RL = some m.cls) (hts : ∀ w ∈ wsL_law, w.before #[Value.ref b] s = true) (hX : va_X b L xs s s.heap) (hbl : b < s.heap.size) (hE : kE D cy sa (l_A s) s s.heap) (hi : i + 5 ≤ L) (hL : L ≤ 2560) (hcs : cells ≤ room_1.cells) (hss : slots ≤ room_1.slots) (hM : LM_guess R) (hR : R u (i0.map Prod.snd) (i1.map Prod.snd) v) (hP : va_P D vwCl (LWd q q2 cy u v i0 i1) H) (hD : va_D (l_A s) (LWd q q2 cy u v i0 i1)) (hS : va_S (l_A s) s.heap H []) (hl : lv_has ls 4 [(0, .ref b), (1, .ref (q 0)), (2, .ref (q2 0)), (3, .int (nI i))]) (K : ∀ (u1 v1 : KS) (H : Heap), R u1 (i0.map Prod.snd) (i1.map Prod.snd) v1 → gO u1 = gO u → va_P D vwCl (LWd q q2 cy u1 v1 i0 i1) H → va_D (l_A s) (LWd q q2 cy u1 v1 i0 i1) → va_S (l_A s) s.heap H [] → W p l e room_1 s m #[Value.ref b] below meth c H [] cells slots Z (F0 m 1123 ls [])) : W p l e room_1 s m #[Value.ref b] below meth c H [] cells slots Z (F0 m 654 ls []) := by
  have hA : ∀ x : Nat, s.heap.size ≤ x → l_A s x := fun x h => h
  have hbA : ¬ l_A s b := Nat.not_le.mpr hbl
  obtain ⟨r, u1, v1, e1, e2, hR1, hO⟩ := hM u _ _ v (xs ((nI i) + 1).toNatClampNeg) (xs ((nI i) + 2).toNatClampNeg) hR
  have hP : va_P D vwCl (WX q cy u ++ (IW cy i0 ++ (IW cy i1 ++ WM q2 cy v))) H := hP
  have hD : va_D (l_A s) (WX q cy u ++ (IW cy i0 ++ (IW cy i1 ++ WM q2 cy v))) := hD
  refine lv_aload_n hx hb dL_law_654 rfl (lv_at hl 1 rfl) ?_
  refine lv_aload_n hx hb dL_law_655 rfl (lv_at hl 0 rfl) ?_
  refine lv_iload_n hx hb dL_law_656 rfl (lv_at hl 3 rfl) ?_
  refine lv_iconst (v := 1) hx hb dL_law_657 (by decide) ?_
  refine lv_iadd hx hb dL_law_658 ?_
  refine va_sld hx hb hX hbl hbA hS (l_in (k := 1) hi hL (by decide)) dL_law_659 ?_
  refine lv_aload_n hx hb dL_law_660 rfl (lv_at hl 0 rfl) ?_
  refine lv_iload_n hx hb dL_law_661 rfl (lv_at hl 3 rfl) ?_
  refine lv_iconst (v := 2) hx hb dL_law_662 (by decide) ?_
  refine lv_iadd hx hb dL_law_663 ?_
  refine va_sld hx hb hX hbl hbA hS (l_in (k := 2) hi hL (by decide)) dL_law_664 ?_
  refine k_goi (va_runV (As := [.int (xs ((nI i) + 1).toNatClampNeg), .int (xs ((nI i) + 2).toNatClampNeg)]) (rest := []) ⟨hx, hb, hml, hown, hts⟩ (zX5_guess l D cy sa q (IW cy i0 ++ (IW cy i1 ++ WM q2 cy v)) H.size u (xs ((nI i) + 1).toNatClampNeg) (xs ((nI i) + 2).toNatClampNeg) (r, u1) e1) (cwV 2 hts (gB_V wB640 wB641 wB642 wB2 wB643) rfl rfl rfl (by decide +kernel) ⟨Nat.le_of_ble_eq_true rfl, Nat.le_of_ble_eq_true rfl⟩) ⟨kP.blind, k_recv hE hP (ci := 5) (q0 := 0) rfl rfl, k_pre hP hD hS hE hA⟩ rfl rfl hl.1 rfl (lv_room (Nat.le_of_ble_eq_true rfl)) dL_law_665 ⟨hcs, hss⟩) hD hS hA (fun H locs hP hD hS => ?_)
  have hP : va_P D vwCl (WX q cy u1 ++ (IW cy i0 ++ (IW cy i1 ++ WM q2 cy v))) H := hP
  have hD : va_D (l_A s) (WX q cy u1 ++ (IW cy i0 ++ (IW cy i1 ++ WM q2 cy v))) := hD
  have hP := l_toP hP
  have hD := l_toD hD
  refine lv_aload_n hx hb dL_law_668 rfl (lv_at hl 2 rfl) ?_
  refine lv_aload_n hx hb dL_law_669 rfl (lv_at hl 0 rfl) ?_
  refine lv_iload_n hx hb dL_law_670 rfl (lv_at hl 3 rfl) ?_
  refine lv_iconst (v := 1) hx hb dL_law_671 (by decide) ?_
  refine lv_iadd hx hb dL_law_672 ?_
  refine va_sld hx hb hX hbl hbA hS (l_in (k := 1) hi hL (by decide)) dL_law_673 ?_
  refine lv_aload_n hx hb dL_law_674 rfl (lv_at hl 0 rfl) ?_
  refine lv_iload_n hx hb dL_law_675 rfl (lv_at hl 3 rfl) ?_
  refine lv_iconst (v := 2) hx hb dL_law_676 (by decide) ?_
  refine lv_iadd hx hb dL_law_677 ?_
  refine va_sld hx hb hX hbl hbA hS (l_in (k := 2) hi hL (by decide)) dL_law_678 ?_
  refine k_goi (va_runV (As := [.int (xs ((nI i) + 1).toNatClampNeg), .int (xs ((nI i) + 2).toNatClampNeg)]) (rest := [.int r]) ⟨hx, hb, hml, hown, hts⟩ (zX6_guess l D cy sa q2 (WX q cy u1 ++ (IW cy i0 ++ IW cy i1)) H.size v (xs ((nI i) + 1).toNatClampNeg) (xs ((nI i) + 2).toNatClampNeg) (r, v1) e2) (cwV 2 hts (gB_V wB645 wB646 wB647 wB5 wB648) rfl rfl rfl (by decide +kernel) ⟨Nat.le_of_ble_eq_true rfl, Nat.le_of_ble_eq_true rfl⟩) ⟨kP.blind, k_recv hE hP (ci := 6) (q0 := 0) rfl rfl, k_pre hP hD hS hE hA⟩ rfl rfl hl.1 rfl (lv_room (Nat.le_of_ble_eq_true rfl)) dL_law_679 ⟨hcs, hss⟩) hD hS hA (fun H locs hP hD hS => ?_)
  have hP : va_P D vwCl (WM q2 cy v1 ++ (WX q cy u1 ++ (IW cy i0 ++ IW cy i1))) H := hP
  have hD : va_D (l_A s) (WM q2 cy v1 ++ (WX q cy u1 ++ (IW cy i0 ++ IW cy i1))) := hD
  have hP := l_ofP hP
  have hD := l_ofD hD
  refine lv_icmp_eq (tgt := 1123) hx hb dL_law_682 (by decide) (fun c9 => ?_) (fun c9 => absurd rfl c9)
  refine va_forget hS.2.2 ?_
  have hS : va_S (l_A s) s.heap H [] := ⟨hS.1, hS.2.1, fun l h => by cases h⟩
  exact K u1 v1 _ hR1 hO hP hD hS
set_option maxHeartbeats 1000000 in
theorem lc_next (hx : p.tables.exec = Jvm.exec) (hb : c.code = code) (hml : c.maxLocals = 4) (hown : s.vm.findClass RL = some m.cls) (hts : ∀ w ∈ wsL_law, w.before #[Value.ref b] s = true) (hX : va_X b L xs s s.heap) (hbl : b < s.heap.size) (hE : kE D cy sa (l_A s) s s.heap) (hi : i + 5 ≤ L) (hL : L ≤ 2560) (hcs : cells ≤ room_1.cells) (hss : slots ≤ room_1.slots) (hM : LM_next R) (hR : R u (i0.map Prod.snd) (i1.map Prod.snd) v) (hP : va_P D vwCl (LWd q q2 cy u v i0 i1) H) (hD : va_D (l_A s) (LWd q q2 cy u v i0 i1)) (hS : va_S (l_A s) s.heap H []) (hl : lv_has ls 4 [(0, .ref b), (1, .ref (q 0)), (2, .ref (q2 0)), (3, .int (nI i))]) (K : ∀ (u1 v1 : KS) (H : Heap), R u1 (i0.map Prod.snd) (i1.map Prod.snd) v1 → gO u1 = gO u → va_P D vwCl (LWd q q2 cy u1 v1 i0 i1) H → va_D (l_A s) (LWd q q2 cy u1 v1 i0 i1) → va_S (l_A s) s.heap H [] → W p l e room_1 s m #[Value.ref b] below meth c H [] cells slots Z (F0 m 1123 ls [])) : W p l e room_1 s m #[Value.ref b] below meth c H [] cells slots Z (F0 m 687 ls []) := by
  have hA : ∀ x : Nat, s.heap.size ≤ x → l_A s x := fun x h => h
  have hbA : ¬ l_A s b := Nat.not_le.mpr hbl
  obtain ⟨r, u1, v1, e1, e2, hR1, hO⟩ := hM u _ _ v (xs ((nI i) + 1).toNatClampNeg) hR
  have hP : va_P D vwCl (WX q cy u ++ (IW cy i0 ++ (IW cy i1 ++ WM q2 cy v))) H := hP
  have hD : va_D (l_A s) (WX q cy u ++ (IW cy i0 ++ (IW cy i1 ++ WM q2 cy v))) := hD
  refine lv_aload_n hx hb dL_law_687 rfl (lv_at hl 1 rfl) ?_
  refine lv_aload_n hx hb dL_law_688 rfl (lv_at hl 0 rfl) ?_
  refine lv_iload_n hx hb dL_law_689 rfl (lv_at hl 3 rfl) ?_
  refine lv_iconst (v := 1) hx hb dL_law_690 (by decide) ?_
  refine lv_iadd hx hb dL_law_691 ?_
  refine va_sld hx hb hX hbl hbA hS (l_in (k := 1) hi hL (by decide)) dL_law_692 ?_
  refine k_goi (va_runV (As := [.int (xs ((nI i) + 1).toNatClampNeg)]) (rest := []) ⟨hx, hb, hml, hown, hts⟩ (zX5_next l D cy sa q (IW cy i0 ++ (IW cy i1 ++ WM q2 cy v)) H.size u (xs ((nI i) + 1).toNatClampNeg) (r, u1) e1) (cwV 1 hts (gB_V wB650 wB651 wB652 wB2 wB653) rfl rfl rfl (by decide +kernel) ⟨Nat.le_of_ble_eq_true rfl, Nat.le_of_ble_eq_true rfl⟩) ⟨kP.blind, k_recv hE hP (ci := 5) (q0 := 0) rfl rfl, k_pre hP hD hS hE hA⟩ rfl rfl hl.1 rfl (lv_room (Nat.le_of_ble_eq_true rfl)) dL_law_693 ⟨hcs, hss⟩) hD hS hA (fun H locs hP hD hS => ?_)
  have hP : va_P D vwCl (WX q cy u1 ++ (IW cy i0 ++ (IW cy i1 ++ WM q2 cy v))) H := hP
  have hD : va_D (l_A s) (WX q cy u1 ++ (IW cy i0 ++ (IW cy i1 ++ WM q2 cy v))) := hD
  have hP := l_toP hP
  have hD := l_toD hD
  refine lv_aload_n hx hb dL_law_696 rfl (lv_at hl 2 rfl) ?_
  refine lv_aload_n hx hb dL_law_697 rfl (lv_at hl 0 rfl) ?_
  refine lv_iload_n hx hb dL_law_698 rfl (lv_at hl 3 rfl) ?_
  refine lv_iconst (v := 1) hx hb dL_law_699 (by decide) ?_
  refine lv_iadd hx hb dL_law_700 ?_
  refine va_sld hx hb hX hbl hbA hS (l_in (k := 1) hi hL (by decide)) dL_law_701 ?_
  refine k_goi (va_runV (As := [.int (xs ((nI i) + 1).toNatClampNeg)]) (rest := [.int r]) ⟨hx, hb, hml, hown, hts⟩ (zX6_next l D cy sa q2 (WX q cy u1 ++ (IW cy i0 ++ IW cy i1)) H.size v (xs ((nI i) + 1).toNatClampNeg) (r, v1) e2) (cwV 1 hts (gB_V wB662 wB663 wB664 wB5 wB665) rfl rfl rfl (by decide +kernel) ⟨Nat.le_of_ble_eq_true rfl, Nat.le_of_ble_eq_true rfl⟩) ⟨kP.blind, k_recv hE hP (ci := 6) (q0 := 0) rfl rfl, k_pre hP hD hS hE hA⟩ rfl rfl hl.1 rfl (lv_room (Nat.le_of_ble_eq_true rfl)) dL_law_702 ⟨hcs, hss⟩) hD hS hA (fun H locs hP hD hS => ?_)
  have hP : va_P D vwCl (WM q2 cy v1 ++ (WX q cy u1 ++ (IW cy i0 ++ IW cy i1))) H := hP
  have hD : va_D (l_A s) (WM q2 cy v1 ++ (WX q cy u1 ++ (IW cy i0 ++ IW cy i1))) := hD
  have hP := l_ofP hP
  have hD := l_ofD hD
  refine lv_icmp_eq (tgt := 1123) hx hb dL_law_705 (by decide) (fun c9 => ?_) (fun c9 => absurd rfl c9)
  refine va_forget hS.2.2 ?_
  have hS : va_S (l_A s) s.heap H [] := ⟨hS.1, hS.2.1, fun l h => by cases h⟩
  exact K u1 v1 _ hR1 hO hP hD hS
set_option maxHeartbeats 1000000 in
theorem lc_leaks (hx : p.tables.exec = Jvm.exec) (hb : c.code = code) (hml : c.maxLocals = 4) (hown : s.vm.findClass RL = some m.cls) (hts : ∀ w ∈ wsL_law, w.before #[Value.ref b] s = true) (hX : va_X b L xs s s.heap) (hbl : b < s.heap.size) (hE : kE D cy sa (l_A s) s s.heap) (hi : i + 5 ≤ L) (hL : L ≤ 2560) (hcs : cells ≤ room_1.cells) (hss : slots ≤ room_1.slots) (hM : LM_leaks R) (hR : R u (i0.map Prod.snd) (i1.map Prod.snd) v) (hP : va_P D vwCl (LWd q q2 cy u v i0 i1) H) (hD : va_D (l_A s) (LWd q q2 cy u v i0 i1)) (hS : va_S (l_A s) s.heap H []) (hl : lv_has ls 4 [(0, .ref b), (1, .ref (q 0)), (2, .ref (q2 0)), (3, .int (nI i))]) (K : ∀ (u1 v1 : KS) (H : Heap), R u1 (i0.map Prod.snd) (i1.map Prod.snd) v1 → gO u1 = gO u → va_P D vwCl (LWd q q2 cy u1 v1 i0 i1) H → va_D (l_A s) (LWd q q2 cy u1 v1 i0 i1) → va_S (l_A s) s.heap H [] → W p l e room_1 s m #[Value.ref b] below meth c H [] cells slots Z (F0 m 1123 ls [])) : W p l e room_1 s m #[Value.ref b] below meth c H [] cells slots Z (F0 m 710 ls []) := by
  have hA : ∀ x : Nat, s.heap.size ≤ x → l_A s x := fun x h => h
  have hbA : ¬ l_A s b := Nat.not_le.mpr hbl
  obtain ⟨r, u1, v1, e1, e2, hR1, hO⟩ := hM u _ _ v (xs ((nI i) + 1).toNatClampNeg) hR
  have hP : va_P D vwCl (WX q cy u ++ (IW cy i0 ++ (IW cy i1 ++ WM q2 cy v))) H := hP
  have hD : va_D (l_A s) (WX q cy u ++ (IW cy i0 ++ (IW cy i1 ++ WM q2 cy v))) := hD
  refine lv_aload_n hx hb dL_law_710 rfl (lv_at hl 1 rfl) ?_
  refine lv_aload_n hx hb dL_law_711 rfl (lv_at hl 0 rfl) ?_
  refine lv_iload_n hx hb dL_law_712 rfl (lv_at hl 3 rfl) ?_
  refine lv_iconst (v := 1) hx hb dL_law_713 (by decide) ?_
  refine lv_iadd hx hb dL_law_714 ?_
  refine va_sld hx hb hX hbl hbA hS (l_in (k := 1) hi hL (by decide)) dL_law_715 ?_
  refine k_goi (va_runV (As := [.int (xs ((nI i) + 1).toNatClampNeg)]) (rest := []) ⟨hx, hb, hml, hown, hts⟩ (zX5_leaks l D cy sa q (IW cy i0 ++ (IW cy i1 ++ WM q2 cy v)) H.size u (xs ((nI i) + 1).toNatClampNeg) (r, u1) e1) (cwV 1 hts (gB_V wB666 wB667 wB668 wB2 wB669) rfl rfl rfl (by decide +kernel) ⟨Nat.le_of_ble_eq_true rfl, Nat.le_of_ble_eq_true rfl⟩) ⟨kP.blind, k_recv hE hP (ci := 5) (q0 := 0) rfl rfl, k_pre hP hD hS hE hA⟩ rfl rfl hl.1 rfl (lv_room (Nat.le_of_ble_eq_true rfl)) dL_law_716 ⟨hcs, hss⟩) hD hS hA (fun H locs hP hD hS => ?_)
  have hP : va_P D vwCl (WX q cy u1 ++ (IW cy i0 ++ (IW cy i1 ++ WM q2 cy v))) H := hP
  have hD : va_D (l_A s) (WX q cy u1 ++ (IW cy i0 ++ (IW cy i1 ++ WM q2 cy v))) := hD
  have hP := l_toP hP
  have hD := l_toD hD
  refine lv_aload_n hx hb dL_law_719 rfl (lv_at hl 2 rfl) ?_
  refine lv_aload_n hx hb dL_law_720 rfl (lv_at hl 0 rfl) ?_
  refine lv_iload_n hx hb dL_law_721 rfl (lv_at hl 3 rfl) ?_
  refine lv_iconst (v := 1) hx hb dL_law_722 (by decide) ?_
  refine lv_iadd hx hb dL_law_723 ?_
  refine va_sld hx hb hX hbl hbA hS (l_in (k := 1) hi hL (by decide)) dL_law_724 ?_
  refine k_goi (va_runV (As := [.int (xs ((nI i) + 1).toNatClampNeg)]) (rest := [.int r]) ⟨hx, hb, hml, hown, hts⟩ (zX6_leaks l D cy sa q2 (WX q cy u1 ++ (IW cy i0 ++ IW cy i1)) H.size v (xs ((nI i) + 1).toNatClampNeg) (r, v1) e2) (cwV 1 hts (gB_V wB679 wB680 wB681 wB5 wB682) rfl rfl rfl (by decide +kernel) ⟨Nat.le_of_ble_eq_true rfl, Nat.le_of_ble_eq_true rfl⟩) ⟨kP.blind, k_recv hE hP (ci := 6) (q0 := 0) rfl rfl, k_pre hP hD hS hE hA⟩ rfl rfl hl.1 rfl (lv_room (Nat.le_of_ble_eq_true rfl)) dL_law_725 ⟨hcs, hss⟩) hD hS hA (fun H locs hP hD hS => ?_)
  have hP : va_P D vwCl (WM q2 cy v1 ++ (WX q cy u1 ++ (IW cy i0 ++ IW cy i1))) H := hP
  have hD : va_D (l_A s) (WM q2 cy v1 ++ (WX q cy u1 ++ (IW cy i0 ++ IW cy i1))) := hD
  have hP := l_ofP hP
  have hD := l_ofD hD
  refine lv_icmp_eq (tgt := 1123) hx hb dL_law_728 (by decide) (fun c9 => ?_) (fun c9 => absurd rfl c9)
  refine va_forget hS.2.2 ?_
  have hS : va_S (l_A s) s.heap H [] := ⟨hS.1, hS.2.1, fun l h => by cases h⟩
  exact K u1 v1 _ hR1 hO hP hD hS
set_option maxHeartbeats 1000000 in
theorem lc_hidden (hx : p.tables.exec = Jvm.exec) (hb : c.code = code) (hml : c.maxLocals = 4) (hown : s.vm.findClass RL = some m.cls) (hts : ∀ w ∈ wsL_law, w.before #[Value.ref b] s = true) (hX : va_X b L xs s s.heap) (hbl : b < s.heap.size) (hE : kE D cy sa (l_A s) s s.heap) (hi : i + 5 ≤ L) (hL : L ≤ 2560) (hcs : cells ≤ room_1.cells) (hss : slots ≤ room_1.slots) (hM : LM_hidden R) (hR : R u (i0.map Prod.snd) (i1.map Prod.snd) v) (hP : va_P D vwCl (LWd q q2 cy u v i0 i1) H) (hD : va_D (l_A s) (LWd q q2 cy u v i0 i1)) (hS : va_S (l_A s) s.heap H []) (hl : lv_has ls 4 [(0, .ref b), (1, .ref (q 0)), (2, .ref (q2 0)), (3, .int (nI i))]) (K : ∀ (u1 v1 : KS) (H : Heap), R u1 (i0.map Prod.snd) (i1.map Prod.snd) v1 → gO u1 = gO u → va_P D vwCl (LWd q q2 cy u1 v1 i0 i1) H → va_D (l_A s) (LWd q q2 cy u1 v1 i0 i1) → va_S (l_A s) s.heap H [] → W p l e room_1 s m #[Value.ref b] below meth c H [] cells slots Z (F0 m 1123 ls [])) : W p l e room_1 s m #[Value.ref b] below meth c H [] cells slots Z (F0 m 733 ls []) := by
  have hA : ∀ x : Nat, s.heap.size ≤ x → l_A s x := fun x h => h
  have hbA : ¬ l_A s b := Nat.not_le.mpr hbl
  obtain ⟨r, u1, v1, e1, e2, hR1, hO⟩ := hM u _ _ v  hR
  have hP : va_P D vwCl (WX q cy u ++ (IW cy i0 ++ (IW cy i1 ++ WM q2 cy v))) H := hP
  have hD : va_D (l_A s) (WX q cy u ++ (IW cy i0 ++ (IW cy i1 ++ WM q2 cy v))) := hD
  refine lv_aload_n hx hb dL_law_733 rfl (lv_at hl 1 rfl) ?_
  refine k_goi (va_runV (As := []) (rest := []) ⟨hx, hb, hml, hown, hts⟩ (zX5_hidden l D cy sa q (IW cy i0 ++ (IW cy i1 ++ WM q2 cy v)) H.size u  (r, u1) e1) (cwV 0 hts (gB_V wB684 wB685 wB686 wB2 wB687) rfl rfl rfl (by decide +kernel) ⟨Nat.le_of_ble_eq_true rfl, Nat.le_of_ble_eq_true rfl⟩) ⟨kP.blind, k_recv hE hP (ci := 5) (q0 := 0) rfl rfl, k_pre hP hD hS hE hA⟩ rfl rfl hl.1 rfl (lv_room (Nat.le_of_ble_eq_true rfl)) dL_law_734 ⟨hcs, hss⟩) hD hS hA (fun H locs hP hD hS => ?_)
  have hP : va_P D vwCl (WX q cy u1 ++ (IW cy i0 ++ (IW cy i1 ++ WM q2 cy v))) H := hP
  have hD : va_D (l_A s) (WX q cy u1 ++ (IW cy i0 ++ (IW cy i1 ++ WM q2 cy v))) := hD
  have hP := l_toP hP
  have hD := l_toD hD
  refine lv_aload_n hx hb dL_law_737 rfl (lv_at hl 2 rfl) ?_
  refine k_goi (va_runV (As := []) (rest := [.int r]) ⟨hx, hb, hml, hown, hts⟩ (zX6_hidden l D cy sa q2 (WX q cy u1 ++ (IW cy i0 ++ IW cy i1)) H.size v  (r, v1) e2) (cwV 0 hts (gB_V wB692 wB693 wB694 wB5 wB695) rfl rfl rfl (by decide +kernel) ⟨Nat.le_of_ble_eq_true rfl, Nat.le_of_ble_eq_true rfl⟩) ⟨kP.blind, k_recv hE hP (ci := 6) (q0 := 0) rfl rfl, k_pre hP hD hS hE hA⟩ rfl rfl hl.1 rfl (lv_room (Nat.le_of_ble_eq_true rfl)) dL_law_738 ⟨hcs, hss⟩) hD hS hA (fun H locs hP hD hS => ?_)
  have hP : va_P D vwCl (WM q2 cy v1 ++ (WX q cy u1 ++ (IW cy i0 ++ IW cy i1))) H := hP
  have hD : va_D (l_A s) (WM q2 cy v1 ++ (WX q cy u1 ++ (IW cy i0 ++ IW cy i1))) := hD
  have hP := l_ofP hP
  have hD := l_ofD hD
  refine lv_icmp_eq (tgt := 1123) hx hb dL_law_741 (by decide) (fun c9 => ?_) (fun c9 => absurd rfl c9)
  refine va_forget hS.2.2 ?_
  have hS : va_S (l_A s) s.heap H [] := ⟨hS.1, hS.2.1, fun l h => by cases h⟩
  exact K u1 v1 _ hR1 hO hP hD hS
set_option maxHeartbeats 1000000 in
theorem lc_gone (hx : p.tables.exec = Jvm.exec) (hb : c.code = code) (hml : c.maxLocals = 4) (hown : s.vm.findClass RL = some m.cls) (hts : ∀ w ∈ wsL_law, w.before #[Value.ref b] s = true) (hX : va_X b L xs s s.heap) (hbl : b < s.heap.size) (hE : kE D cy sa (l_A s) s s.heap) (hi : i + 5 ≤ L) (hL : L ≤ 2560) (hcs : cells ≤ room_1.cells) (hss : slots ≤ room_1.slots) (hM : LM_gone R) (hR : R u (i0.map Prod.snd) (i1.map Prod.snd) v) (hP : va_P D vwCl (LWd q q2 cy u v i0 i1) H) (hD : va_D (l_A s) (LWd q q2 cy u v i0 i1)) (hS : va_S (l_A s) s.heap H []) (hl : lv_has ls 4 [(0, .ref b), (1, .ref (q 0)), (2, .ref (q2 0)), (3, .int (nI i))]) (K : ∀ (u1 v1 : KS) (H : Heap), R u1 (i0.map Prod.snd) (i1.map Prod.snd) v1 → gO u1 = gO u → va_P D vwCl (LWd q q2 cy u1 v1 i0 i1) H → va_D (l_A s) (LWd q q2 cy u1 v1 i0 i1) → va_S (l_A s) s.heap H [] → W p l e room_1 s m #[Value.ref b] below meth c H [] cells slots Z (F0 m 1123 ls [])) : W p l e room_1 s m #[Value.ref b] below meth c H [] cells slots Z (F0 m 746 ls []) := by
  have hA : ∀ x : Nat, s.heap.size ≤ x → l_A s x := fun x h => h
  have hbA : ¬ l_A s b := Nat.not_le.mpr hbl
  obtain ⟨r, u1, v1, e1, e2, hR1, hO⟩ := hM u _ _ v (xs ((nI i) + 1).toNatClampNeg) (xs ((nI i) + 2).toNatClampNeg) (xs ((nI i) + 3).toNatClampNeg) hR
  have hP : va_P D vwCl (WX q cy u ++ (IW cy i0 ++ (IW cy i1 ++ WM q2 cy v))) H := hP
  have hD : va_D (l_A s) (WX q cy u ++ (IW cy i0 ++ (IW cy i1 ++ WM q2 cy v))) := hD
  refine lv_aload_n hx hb dL_law_746 rfl (lv_at hl 1 rfl) ?_
  refine lv_aload_n hx hb dL_law_747 rfl (lv_at hl 0 rfl) ?_
  refine lv_iload_n hx hb dL_law_748 rfl (lv_at hl 3 rfl) ?_
  refine lv_iconst (v := 1) hx hb dL_law_749 (by decide) ?_
  refine lv_iadd hx hb dL_law_750 ?_
  refine va_sld hx hb hX hbl hbA hS (l_in (k := 1) hi hL (by decide)) dL_law_751 ?_
  refine lv_aload_n hx hb dL_law_752 rfl (lv_at hl 0 rfl) ?_
  refine lv_iload_n hx hb dL_law_753 rfl (lv_at hl 3 rfl) ?_
  refine lv_iconst (v := 2) hx hb dL_law_754 (by decide) ?_
  refine lv_iadd hx hb dL_law_755 ?_
  refine va_sld hx hb hX hbl hbA hS (l_in (k := 2) hi hL (by decide)) dL_law_756 ?_
  refine lv_aload_n hx hb dL_law_757 rfl (lv_at hl 0 rfl) ?_
  refine lv_iload_n hx hb dL_law_758 rfl (lv_at hl 3 rfl) ?_
  refine lv_iconst (v := 3) hx hb dL_law_759 (by decide) ?_
  refine lv_iadd hx hb dL_law_760 ?_
  refine va_sld hx hb hX hbl hbA hS (l_in (k := 3) hi hL (by decide)) dL_law_761 ?_
  refine k_goi (va_runV (As := [.int (xs ((nI i) + 1).toNatClampNeg), .int (xs ((nI i) + 2).toNatClampNeg), .int (xs ((nI i) + 3).toNatClampNeg)]) (rest := []) ⟨hx, hb, hml, hown, hts⟩ (zX5_gone l D cy sa q (IW cy i0 ++ (IW cy i1 ++ WM q2 cy v)) H.size u (xs ((nI i) + 1).toNatClampNeg) (xs ((nI i) + 2).toNatClampNeg) (xs ((nI i) + 3).toNatClampNeg) (r, u1) e1) (cwV 3 hts (gB_V wB696 wB697 wB698 wB2 wB699) rfl rfl rfl (by decide +kernel) ⟨Nat.le_of_ble_eq_true rfl, Nat.le_of_ble_eq_true rfl⟩) ⟨kP.blind, k_recv hE hP (ci := 5) (q0 := 0) rfl rfl, k_pre hP hD hS hE hA⟩ rfl rfl hl.1 rfl (lv_room (Nat.le_of_ble_eq_true rfl)) dL_law_762 ⟨hcs, hss⟩) hD hS hA (fun H locs hP hD hS => ?_)
  have hP : va_P D vwCl (WX q cy u1 ++ (IW cy i0 ++ (IW cy i1 ++ WM q2 cy v))) H := hP
  have hD : va_D (l_A s) (WX q cy u1 ++ (IW cy i0 ++ (IW cy i1 ++ WM q2 cy v))) := hD
  have hP := l_toP hP
  have hD := l_toD hD
  refine lv_aload_n hx hb dL_law_765 rfl (lv_at hl 2 rfl) ?_
  refine lv_aload_n hx hb dL_law_766 rfl (lv_at hl 0 rfl) ?_
  refine lv_iload_n hx hb dL_law_767 rfl (lv_at hl 3 rfl) ?_
  refine lv_iconst (v := 1) hx hb dL_law_768 (by decide) ?_
  refine lv_iadd hx hb dL_law_769 ?_
  refine va_sld hx hb hX hbl hbA hS (l_in (k := 1) hi hL (by decide)) dL_law_770 ?_
  refine lv_aload_n hx hb dL_law_771 rfl (lv_at hl 0 rfl) ?_
  refine lv_iload_n hx hb dL_law_772 rfl (lv_at hl 3 rfl) ?_
  refine lv_iconst (v := 2) hx hb dL_law_773 (by decide) ?_
  refine lv_iadd hx hb dL_law_774 ?_
  refine va_sld hx hb hX hbl hbA hS (l_in (k := 2) hi hL (by decide)) dL_law_775 ?_
  refine lv_aload_n hx hb dL_law_776 rfl (lv_at hl 0 rfl) ?_
  refine lv_iload_n hx hb dL_law_777 rfl (lv_at hl 3 rfl) ?_
  refine lv_iconst (v := 3) hx hb dL_law_778 (by decide) ?_
  refine lv_iadd hx hb dL_law_779 ?_
  refine va_sld hx hb hX hbl hbA hS (l_in (k := 3) hi hL (by decide)) dL_law_780 ?_
  refine k_goi (va_runV (As := [.int (xs ((nI i) + 1).toNatClampNeg), .int (xs ((nI i) + 2).toNatClampNeg), .int (xs ((nI i) + 3).toNatClampNeg)]) (rest := [.int r]) ⟨hx, hb, hml, hown, hts⟩ (zX6_gone l D cy sa q2 (WX q cy u1 ++ (IW cy i0 ++ IW cy i1)) H.size v (xs ((nI i) + 1).toNatClampNeg) (xs ((nI i) + 2).toNatClampNeg) (xs ((nI i) + 3).toNatClampNeg) (r, v1) e2) (cwV 3 hts (gB_V wB717 wB718 wB719 wB5 wB720) rfl rfl rfl (by decide +kernel) ⟨Nat.le_of_ble_eq_true rfl, Nat.le_of_ble_eq_true rfl⟩) ⟨kP.blind, k_recv hE hP (ci := 6) (q0 := 0) rfl rfl, k_pre hP hD hS hE hA⟩ rfl rfl hl.1 rfl (lv_room (Nat.le_of_ble_eq_true rfl)) dL_law_781 ⟨hcs, hss⟩) hD hS hA (fun H locs hP hD hS => ?_)
  have hP : va_P D vwCl (WM q2 cy v1 ++ (WX q cy u1 ++ (IW cy i0 ++ IW cy i1))) H := hP
  have hD : va_D (l_A s) (WM q2 cy v1 ++ (WX q cy u1 ++ (IW cy i0 ++ IW cy i1))) := hD
  have hP := l_ofP hP
  have hD := l_ofD hD
  refine lv_icmp_eq (tgt := 1123) hx hb dL_law_784 (by decide) (fun c9 => ?_) (fun c9 => absurd rfl c9)
  refine va_forget hS.2.2 ?_
  have hS : va_S (l_A s) s.heap H [] := ⟨hS.1, hS.2.1, fun l h => by cases h⟩
  exact K u1 v1 _ hR1 hO hP hD hS
set_option maxHeartbeats 1000000 in
theorem lc_harvest (hx : p.tables.exec = Jvm.exec) (hb : c.code = code) (hml : c.maxLocals = 4) (hown : s.vm.findClass RL = some m.cls) (hts : ∀ w ∈ wsL_law, w.before #[Value.ref b] s = true) (hX : va_X b L xs s s.heap) (hbl : b < s.heap.size) (hE : kE D cy sa (l_A s) s s.heap) (hi : i + 5 ≤ L) (hL : L ≤ 2560) (hcs : cells ≤ room_1.cells) (hss : slots ≤ room_1.slots) (hM : LM_harvest R) (hR : R u (i0.map Prod.snd) (i1.map Prod.snd) v) (hP : va_P D vwCl (LWd q q2 cy u v i0 i1) H) (hD : va_D (l_A s) (LWd q q2 cy u v i0 i1)) (hS : va_S (l_A s) s.heap H []) (hl : lv_has ls 4 [(0, .ref b), (1, .ref (q 0)), (2, .ref (q2 0)), (3, .int (nI i))]) (K : ∀ (u1 v1 : KS) (H : Heap), R u1 (i0.map Prod.snd) (i1.map Prod.snd) v1 → gO u1 = gO u → va_P D vwCl (LWd q q2 cy u1 v1 i0 i1) H → va_D (l_A s) (LWd q q2 cy u1 v1 i0 i1) → va_S (l_A s) s.heap H [] → W p l e room_1 s m #[Value.ref b] below meth c H [] cells slots Z (F0 m 1123 ls [])) : W p l e room_1 s m #[Value.ref b] below meth c H [] cells slots Z (F0 m 789 ls []) := by
  have hA : ∀ x : Nat, s.heap.size ≤ x → l_A s x := fun x h => h
  have hbA : ¬ l_A s b := Nat.not_le.mpr hbl
  obtain ⟨r, u1, v1, e1, e2, hR1, hO⟩ := hM u _ _ v (xs ((nI i) + 1).toNatClampNeg) (xs ((nI i) + 2).toNatClampNeg) (xs ((nI i) + 3).toNatClampNeg) (xs ((nI i) + 4).toNatClampNeg) hR
  have hP : va_P D vwCl (WX q cy u ++ (IW cy i0 ++ (IW cy i1 ++ WM q2 cy v))) H := hP
  have hD : va_D (l_A s) (WX q cy u ++ (IW cy i0 ++ (IW cy i1 ++ WM q2 cy v))) := hD
  refine lv_aload_n hx hb dL_law_789 rfl (lv_at hl 1 rfl) ?_
  refine lv_aload_n hx hb dL_law_790 rfl (lv_at hl 0 rfl) ?_
  refine lv_iload_n hx hb dL_law_791 rfl (lv_at hl 3 rfl) ?_
  refine lv_iconst (v := 1) hx hb dL_law_792 (by decide) ?_
  refine lv_iadd hx hb dL_law_793 ?_
  refine va_sld hx hb hX hbl hbA hS (l_in (k := 1) hi hL (by decide)) dL_law_794 ?_
  refine lv_aload_n hx hb dL_law_795 rfl (lv_at hl 0 rfl) ?_
  refine lv_iload_n hx hb dL_law_796 rfl (lv_at hl 3 rfl) ?_
  refine lv_iconst (v := 2) hx hb dL_law_797 (by decide) ?_
  refine lv_iadd hx hb dL_law_798 ?_
  refine va_sld hx hb hX hbl hbA hS (l_in (k := 2) hi hL (by decide)) dL_law_799 ?_
  refine lv_aload_n hx hb dL_law_800 rfl (lv_at hl 0 rfl) ?_
  refine lv_iload_n hx hb dL_law_801 rfl (lv_at hl 3 rfl) ?_
  refine lv_iconst (v := 3) hx hb dL_law_802 (by decide) ?_
  refine lv_iadd hx hb dL_law_803 ?_
  refine va_sld hx hb hX hbl hbA hS (l_in (k := 3) hi hL (by decide)) dL_law_804 ?_
  refine lv_aload_n hx hb dL_law_805 rfl (lv_at hl 0 rfl) ?_
  refine lv_iload_n hx hb dL_law_806 rfl (lv_at hl 3 rfl) ?_
  refine lv_iconst (v := 4) hx hb dL_law_807 (by decide) ?_
  refine lv_iadd hx hb dL_law_808 ?_
  refine va_sld hx hb hX hbl hbA hS (l_in (k := 4) hi hL (by decide)) dL_law_809 ?_
  refine k_goi (va_runV (As := [.int (xs ((nI i) + 1).toNatClampNeg), .int (xs ((nI i) + 2).toNatClampNeg), .int (xs ((nI i) + 3).toNatClampNeg), .int (xs ((nI i) + 4).toNatClampNeg)]) (rest := []) ⟨hx, hb, hml, hown, hts⟩ (zX5_harvest l D cy sa q (IW cy i0 ++ (IW cy i1 ++ WM q2 cy v)) H.size u (xs ((nI i) + 1).toNatClampNeg) (xs ((nI i) + 2).toNatClampNeg) (xs ((nI i) + 3).toNatClampNeg) (xs ((nI i) + 4).toNatClampNeg) (r, u1) e1) (cwV 4 hts (gB_V wB733 wB734 wB735 wB2 wB736) rfl rfl rfl (by decide +kernel) ⟨Nat.le_of_ble_eq_true rfl, Nat.le_of_ble_eq_true rfl⟩) ⟨kP.blind, k_recv hE hP (ci := 5) (q0 := 0) rfl rfl, k_pre hP hD hS hE hA⟩ rfl rfl hl.1 rfl (lv_room (Nat.le_of_ble_eq_true rfl)) dL_law_810 ⟨hcs, hss⟩) hD hS hA (fun H locs hP hD hS => ?_)
  have hP : va_P D vwCl (WX q cy u1 ++ (IW cy i0 ++ (IW cy i1 ++ WM q2 cy v))) H := hP
  have hD : va_D (l_A s) (WX q cy u1 ++ (IW cy i0 ++ (IW cy i1 ++ WM q2 cy v))) := hD
  have hP := l_toP hP
  have hD := l_toD hD
  refine lv_aload_n hx hb dL_law_813 rfl (lv_at hl 2 rfl) ?_
  refine lv_aload_n hx hb dL_law_814 rfl (lv_at hl 0 rfl) ?_
  refine lv_iload_n hx hb dL_law_815 rfl (lv_at hl 3 rfl) ?_
  refine lv_iconst (v := 1) hx hb dL_law_816 (by decide) ?_
  refine lv_iadd hx hb dL_law_817 ?_
  refine va_sld hx hb hX hbl hbA hS (l_in (k := 1) hi hL (by decide)) dL_law_818 ?_
  refine lv_aload_n hx hb dL_law_819 rfl (lv_at hl 0 rfl) ?_
  refine lv_iload_n hx hb dL_law_820 rfl (lv_at hl 3 rfl) ?_
  refine lv_iconst (v := 2) hx hb dL_law_821 (by decide) ?_
  refine lv_iadd hx hb dL_law_822 ?_
  refine va_sld hx hb hX hbl hbA hS (l_in (k := 2) hi hL (by decide)) dL_law_823 ?_
  refine lv_aload_n hx hb dL_law_824 rfl (lv_at hl 0 rfl) ?_
  refine lv_iload_n hx hb dL_law_825 rfl (lv_at hl 3 rfl) ?_
  refine lv_iconst (v := 3) hx hb dL_law_826 (by decide) ?_
  refine lv_iadd hx hb dL_law_827 ?_
  refine va_sld hx hb hX hbl hbA hS (l_in (k := 3) hi hL (by decide)) dL_law_828 ?_
  refine lv_aload_n hx hb dL_law_829 rfl (lv_at hl 0 rfl) ?_
  refine lv_iload_n hx hb dL_law_830 rfl (lv_at hl 3 rfl) ?_
  refine lv_iconst (v := 4) hx hb dL_law_831 (by decide) ?_
  refine lv_iadd hx hb dL_law_832 ?_
  refine va_sld hx hb hX hbl hbA hS (l_in (k := 4) hi hL (by decide)) dL_law_833 ?_
  refine k_goi (va_runV (As := [.int (xs ((nI i) + 1).toNatClampNeg), .int (xs ((nI i) + 2).toNatClampNeg), .int (xs ((nI i) + 3).toNatClampNeg), .int (xs ((nI i) + 4).toNatClampNeg)]) (rest := [.int r]) ⟨hx, hb, hml, hown, hts⟩ (zX6_harvest l D cy sa q2 (WX q cy u1 ++ (IW cy i0 ++ IW cy i1)) H.size v (xs ((nI i) + 1).toNatClampNeg) (xs ((nI i) + 2).toNatClampNeg) (xs ((nI i) + 3).toNatClampNeg) (xs ((nI i) + 4).toNatClampNeg) (r, v1) e2) (cwV 4 hts (gB_V wB762 wB763 wB764 wB5 wB765) rfl rfl rfl (by decide +kernel) ⟨Nat.le_of_ble_eq_true rfl, Nat.le_of_ble_eq_true rfl⟩) ⟨kP.blind, k_recv hE hP (ci := 6) (q0 := 0) rfl rfl, k_pre hP hD hS hE hA⟩ rfl rfl hl.1 rfl (lv_room (Nat.le_of_ble_eq_true rfl)) dL_law_834 ⟨hcs, hss⟩) hD hS hA (fun H locs hP hD hS => ?_)
  have hP : va_P D vwCl (WM q2 cy v1 ++ (WX q cy u1 ++ (IW cy i0 ++ IW cy i1))) H := hP
  have hD : va_D (l_A s) (WM q2 cy v1 ++ (WX q cy u1 ++ (IW cy i0 ++ IW cy i1))) := hD
  have hP := l_ofP hP
  have hD := l_ofD hD
  refine lv_icmp_eq (tgt := 1123) hx hb dL_law_837 (by decide) (fun c9 => ?_) (fun c9 => absurd rfl c9)
  refine va_forget hS.2.2 ?_
  have hS : va_S (l_A s) s.heap H [] := ⟨hS.1, hS.2.1, fun l h => by cases h⟩
  exact K u1 v1 _ hR1 hO hP hD hS
set_option maxHeartbeats 1000000 in
theorem lc_drive (hx : p.tables.exec = Jvm.exec) (hb : c.code = code) (hml : c.maxLocals = 4) (hown : s.vm.findClass RL = some m.cls) (hts : ∀ w ∈ wsL_law, w.before #[Value.ref b] s = true) (hX : va_X b L xs s s.heap) (hbl : b < s.heap.size) (hE : kE D cy sa (l_A s) s s.heap) (hi : i + 5 ≤ L) (hL : L ≤ 2560) (hcs : cells ≤ room_1.cells) (hss : slots ≤ room_1.slots) (hM : LM_drive R) (hR : R u (i0.map Prod.snd) (i1.map Prod.snd) v) (hP : va_P D vwCl (LWd q q2 cy u v i0 i1) H) (hD : va_D (l_A s) (LWd q q2 cy u v i0 i1)) (hS : va_S (l_A s) s.heap H []) (hl : lv_has ls 4 [(0, .ref b), (1, .ref (q 0)), (2, .ref (q2 0)), (3, .int (nI i))]) (K : ∀ (u1 v1 : KS) (H : Heap), R u1 (i0.map Prod.snd) (i1.map Prod.snd) v1 → gO u1 = gO u → va_P D vwCl (LWd q q2 cy u1 v1 i0 i1) H → va_D (l_A s) (LWd q q2 cy u1 v1 i0 i1) → va_S (l_A s) s.heap H [] → W p l e room_1 s m #[Value.ref b] below meth c H [] cells slots Z (F0 m 1123 ls [])) : W p l e room_1 s m #[Value.ref b] below meth c H [] cells slots Z (F0 m 842 ls []) := by
  have hA : ∀ x : Nat, s.heap.size ≤ x → l_A s x := fun x h => h
  have hbA : ¬ l_A s b := Nat.not_le.mpr hbl
  obtain ⟨r, u1, v1, e1, e2, hR1, hO⟩ := hM u _ _ v (xs ((nI i) + 1).toNatClampNeg) (xs ((nI i) + 2).toNatClampNeg) (xs ((nI i) + 3).toNatClampNeg) (xs ((nI i) + 4).toNatClampNeg) hR
  have hP : va_P D vwCl (WX q cy u ++ (IW cy i0 ++ (IW cy i1 ++ WM q2 cy v))) H := hP
  have hD : va_D (l_A s) (WX q cy u ++ (IW cy i0 ++ (IW cy i1 ++ WM q2 cy v))) := hD
  refine lv_aload_n hx hb dL_law_842 rfl (lv_at hl 1 rfl) ?_
  refine lv_aload_n hx hb dL_law_843 rfl (lv_at hl 0 rfl) ?_
  refine lv_iload_n hx hb dL_law_844 rfl (lv_at hl 3 rfl) ?_
  refine lv_iconst (v := 1) hx hb dL_law_845 (by decide) ?_
  refine lv_iadd hx hb dL_law_846 ?_
  refine va_sld hx hb hX hbl hbA hS (l_in (k := 1) hi hL (by decide)) dL_law_847 ?_
  refine lv_aload_n hx hb dL_law_848 rfl (lv_at hl 0 rfl) ?_
  refine lv_iload_n hx hb dL_law_849 rfl (lv_at hl 3 rfl) ?_
  refine lv_iconst (v := 2) hx hb dL_law_850 (by decide) ?_
  refine lv_iadd hx hb dL_law_851 ?_
  refine va_sld hx hb hX hbl hbA hS (l_in (k := 2) hi hL (by decide)) dL_law_852 ?_
  refine lv_aload_n hx hb dL_law_853 rfl (lv_at hl 0 rfl) ?_
  refine lv_iload_n hx hb dL_law_854 rfl (lv_at hl 3 rfl) ?_
  refine lv_iconst (v := 3) hx hb dL_law_855 (by decide) ?_
  refine lv_iadd hx hb dL_law_856 ?_
  refine va_sld hx hb hX hbl hbA hS (l_in (k := 3) hi hL (by decide)) dL_law_857 ?_
  refine lv_aload_n hx hb dL_law_858 rfl (lv_at hl 0 rfl) ?_
  refine lv_iload_n hx hb dL_law_859 rfl (lv_at hl 3 rfl) ?_
  refine lv_iconst (v := 4) hx hb dL_law_860 (by decide) ?_
  refine lv_iadd hx hb dL_law_861 ?_
  refine va_sld hx hb hX hbl hbA hS (l_in (k := 4) hi hL (by decide)) dL_law_862 ?_
  refine k_goi (va_runV (As := [.int (xs ((nI i) + 1).toNatClampNeg), .int (xs ((nI i) + 2).toNatClampNeg), .int (xs ((nI i) + 3).toNatClampNeg), .int (xs ((nI i) + 4).toNatClampNeg)]) (rest := []) ⟨hx, hb, hml, hown, hts⟩ (zX5_drive l D cy sa q (IW cy i0 ++ (IW cy i1 ++ WM q2 cy v)) H.size u (xs ((nI i) + 1).toNatClampNeg) (xs ((nI i) + 2).toNatClampNeg) (xs ((nI i) + 3).toNatClampNeg) (xs ((nI i) + 4).toNatClampNeg) (r, u1) e1) (cwV 4 hts (gB_V wB776 wB777 wB778 wB2 wB779) rfl rfl rfl (by decide +kernel) ⟨Nat.le_of_ble_eq_true rfl, Nat.le_of_ble_eq_true rfl⟩) ⟨kP.blind, k_recv hE hP (ci := 5) (q0 := 0) rfl rfl, k_pre hP hD hS hE hA⟩ rfl rfl hl.1 rfl (lv_room (Nat.le_of_ble_eq_true rfl)) dL_law_863 ⟨hcs, hss⟩) hD hS hA (fun H locs hP hD hS => ?_)
  have hP : va_P D vwCl (WX q cy u1 ++ (IW cy i0 ++ (IW cy i1 ++ WM q2 cy v))) H := hP
  have hD : va_D (l_A s) (WX q cy u1 ++ (IW cy i0 ++ (IW cy i1 ++ WM q2 cy v))) := hD
  have hP := l_toP hP
  have hD := l_toD hD
  refine lv_aload_n hx hb dL_law_866 rfl (lv_at hl 2 rfl) ?_
  refine lv_aload_n hx hb dL_law_867 rfl (lv_at hl 0 rfl) ?_
  refine lv_iload_n hx hb dL_law_868 rfl (lv_at hl 3 rfl) ?_
  refine lv_iconst (v := 1) hx hb dL_law_869 (by decide) ?_
  refine lv_iadd hx hb dL_law_870 ?_
  refine va_sld hx hb hX hbl hbA hS (l_in (k := 1) hi hL (by decide)) dL_law_871 ?_
  refine lv_aload_n hx hb dL_law_872 rfl (lv_at hl 0 rfl) ?_
  refine lv_iload_n hx hb dL_law_873 rfl (lv_at hl 3 rfl) ?_
  refine lv_iconst (v := 2) hx hb dL_law_874 (by decide) ?_
  refine lv_iadd hx hb dL_law_875 ?_
  refine va_sld hx hb hX hbl hbA hS (l_in (k := 2) hi hL (by decide)) dL_law_876 ?_
  refine lv_aload_n hx hb dL_law_877 rfl (lv_at hl 0 rfl) ?_
  refine lv_iload_n hx hb dL_law_878 rfl (lv_at hl 3 rfl) ?_
  refine lv_iconst (v := 3) hx hb dL_law_879 (by decide) ?_
  refine lv_iadd hx hb dL_law_880 ?_
  refine va_sld hx hb hX hbl hbA hS (l_in (k := 3) hi hL (by decide)) dL_law_881 ?_
  refine lv_aload_n hx hb dL_law_882 rfl (lv_at hl 0 rfl) ?_
  refine lv_iload_n hx hb dL_law_883 rfl (lv_at hl 3 rfl) ?_
  refine lv_iconst (v := 4) hx hb dL_law_884 (by decide) ?_
  refine lv_iadd hx hb dL_law_885 ?_
  refine va_sld hx hb hX hbl hbA hS (l_in (k := 4) hi hL (by decide)) dL_law_886 ?_
  refine k_goi (va_runV (As := [.int (xs ((nI i) + 1).toNatClampNeg), .int (xs ((nI i) + 2).toNatClampNeg), .int (xs ((nI i) + 3).toNatClampNeg), .int (xs ((nI i) + 4).toNatClampNeg)]) (rest := [.int r]) ⟨hx, hb, hml, hown, hts⟩ (zX6_drive l D cy sa q2 (WX q cy u1 ++ (IW cy i0 ++ IW cy i1)) H.size v (xs ((nI i) + 1).toNatClampNeg) (xs ((nI i) + 2).toNatClampNeg) (xs ((nI i) + 3).toNatClampNeg) (xs ((nI i) + 4).toNatClampNeg) (r, v1) e2) (cwV 4 hts (gB_V wB781 wB782 wB783 wB5 wB784) rfl rfl rfl (by decide +kernel) ⟨Nat.le_of_ble_eq_true rfl, Nat.le_of_ble_eq_true rfl⟩) ⟨kP.blind, k_recv hE hP (ci := 6) (q0 := 0) rfl rfl, k_pre hP hD hS hE hA⟩ rfl rfl hl.1 rfl (lv_room (Nat.le_of_ble_eq_true rfl)) dL_law_887 ⟨hcs, hss⟩) hD hS hA (fun H locs hP hD hS => ?_)
  have hP : va_P D vwCl (WM q2 cy v1 ++ (WX q cy u1 ++ (IW cy i0 ++ IW cy i1))) H := hP
  have hD : va_D (l_A s) (WM q2 cy v1 ++ (WX q cy u1 ++ (IW cy i0 ++ IW cy i1))) := hD
  have hP := l_ofP hP
  have hD := l_ofD hD
  refine lv_icmp_eq (tgt := 1123) hx hb dL_law_890 (by decide) (fun c9 => ?_) (fun c9 => absurd rfl c9)
  refine va_forget hS.2.2 ?_
  have hS : va_S (l_A s) s.heap H [] := ⟨hS.1, hS.2.1, fun l h => by cases h⟩
  exact K u1 v1 _ hR1 hO hP hD hS
set_option maxHeartbeats 1000000 in
theorem lc_part (hx : p.tables.exec = Jvm.exec) (hb : c.code = code) (hml : c.maxLocals = 4) (hown : s.vm.findClass RL = some m.cls) (hts : ∀ w ∈ wsL_law, w.before #[Value.ref b] s = true) (hX : va_X b L xs s s.heap) (hbl : b < s.heap.size) (hE : kE D cy sa (l_A s) s s.heap) (hi : i + 5 ≤ L) (hL : L ≤ 2560) (hcs : cells ≤ room_1.cells) (hss : slots ≤ room_1.slots) (hM : LM_part R) (hR : R u (i0.map Prod.snd) (i1.map Prod.snd) v) (hP : va_P D vwCl (LWd q q2 cy u v i0 i1) H) (hD : va_D (l_A s) (LWd q q2 cy u v i0 i1)) (hS : va_S (l_A s) s.heap H []) (hl : lv_has ls 4 [(0, .ref b), (1, .ref (q 0)), (2, .ref (q2 0)), (3, .int (nI i))]) (K : ∀ (u1 v1 : KS) (H : Heap), R u1 (i0.map Prod.snd) (i1.map Prod.snd) v1 → gO u1 = gO u → va_P D vwCl (LWd q q2 cy u1 v1 i0 i1) H → va_D (l_A s) (LWd q q2 cy u1 v1 i0 i1) → va_S (l_A s) s.heap H [] → W p l e room_1 s m #[Value.ref b] below meth c H [] cells slots Z (F0 m 1123 ls [])) : W p l e room_1 s m #[Value.ref b] below meth c H [] cells slots Z (F0 m 895 ls []) := by
  have hA : ∀ x : Nat, s.heap.size ≤ x → l_A s x := fun x h => h
  have hbA : ¬ l_A s b := Nat.not_le.mpr hbl
  obtain ⟨r, u1, v1, e1, e2, hR1, hO⟩ := hM u _ _ v (xs ((nI i) + 1).toNatClampNeg) (xs ((nI i) + 2).toNatClampNeg) (xs ((nI i) + 3).toNatClampNeg) hR
  have hP : va_P D vwCl (WX q cy u ++ (IW cy i0 ++ (IW cy i1 ++ WM q2 cy v))) H := hP
  have hD : va_D (l_A s) (WX q cy u ++ (IW cy i0 ++ (IW cy i1 ++ WM q2 cy v))) := hD
  refine lv_aload_n hx hb dL_law_895 rfl (lv_at hl 1 rfl) ?_
  refine lv_aload_n hx hb dL_law_896 rfl (lv_at hl 0 rfl) ?_
  refine lv_iload_n hx hb dL_law_897 rfl (lv_at hl 3 rfl) ?_
  refine lv_iconst (v := 1) hx hb dL_law_898 (by decide) ?_
  refine lv_iadd hx hb dL_law_899 ?_
  refine va_sld hx hb hX hbl hbA hS (l_in (k := 1) hi hL (by decide)) dL_law_900 ?_
  refine lv_aload_n hx hb dL_law_901 rfl (lv_at hl 0 rfl) ?_
  refine lv_iload_n hx hb dL_law_902 rfl (lv_at hl 3 rfl) ?_
  refine lv_iconst (v := 2) hx hb dL_law_903 (by decide) ?_
  refine lv_iadd hx hb dL_law_904 ?_
  refine va_sld hx hb hX hbl hbA hS (l_in (k := 2) hi hL (by decide)) dL_law_905 ?_
  refine lv_aload_n hx hb dL_law_906 rfl (lv_at hl 0 rfl) ?_
  refine lv_iload_n hx hb dL_law_907 rfl (lv_at hl 3 rfl) ?_
  refine lv_iconst (v := 3) hx hb dL_law_908 (by decide) ?_
  refine lv_iadd hx hb dL_law_909 ?_
  refine va_sld hx hb hX hbl hbA hS (l_in (k := 3) hi hL (by decide)) dL_law_910 ?_
  refine k_goi (va_runV (As := [.int (xs ((nI i) + 1).toNatClampNeg), .int (xs ((nI i) + 2).toNatClampNeg), .int (xs ((nI i) + 3).toNatClampNeg)]) (rest := []) ⟨hx, hb, hml, hown, hts⟩ (zX5_part l D cy sa q (IW cy i0 ++ (IW cy i1 ++ WM q2 cy v)) H.size u (xs ((nI i) + 1).toNatClampNeg) (xs ((nI i) + 2).toNatClampNeg) (xs ((nI i) + 3).toNatClampNeg) (r, u1) e1) (cwV 3 hts (gB_V wB785 wB786 wB787 wB2 wB788) rfl rfl rfl (by decide +kernel) ⟨Nat.le_of_ble_eq_true rfl, Nat.le_of_ble_eq_true rfl⟩) ⟨kP.blind, k_recv hE hP (ci := 5) (q0 := 0) rfl rfl, k_pre hP hD hS hE hA⟩ rfl rfl hl.1 rfl (lv_room (Nat.le_of_ble_eq_true rfl)) dL_law_911 ⟨hcs, hss⟩) hD hS hA (fun H locs hP hD hS => ?_)
  have hP : va_P D vwCl (WX q cy u1 ++ (IW cy i0 ++ (IW cy i1 ++ WM q2 cy v))) H := hP
  have hD : va_D (l_A s) (WX q cy u1 ++ (IW cy i0 ++ (IW cy i1 ++ WM q2 cy v))) := hD
  have hP := l_toP hP
  have hD := l_toD hD
  refine lv_aload_n hx hb dL_law_914 rfl (lv_at hl 2 rfl) ?_
  refine lv_aload_n hx hb dL_law_915 rfl (lv_at hl 0 rfl) ?_
  refine lv_iload_n hx hb dL_law_916 rfl (lv_at hl 3 rfl) ?_
  refine lv_iconst (v := 1) hx hb dL_law_917 (by decide) ?_
  refine lv_iadd hx hb dL_law_918 ?_
  refine va_sld hx hb hX hbl hbA hS (l_in (k := 1) hi hL (by decide)) dL_law_919 ?_
  refine lv_aload_n hx hb dL_law_920 rfl (lv_at hl 0 rfl) ?_
  refine lv_iload_n hx hb dL_law_921 rfl (lv_at hl 3 rfl) ?_
  refine lv_iconst (v := 2) hx hb dL_law_922 (by decide) ?_
  refine lv_iadd hx hb dL_law_923 ?_
  refine va_sld hx hb hX hbl hbA hS (l_in (k := 2) hi hL (by decide)) dL_law_924 ?_
  refine lv_aload_n hx hb dL_law_925 rfl (lv_at hl 0 rfl) ?_
  refine lv_iload_n hx hb dL_law_926 rfl (lv_at hl 3 rfl) ?_
  refine lv_iconst (v := 3) hx hb dL_law_927 (by decide) ?_
  refine lv_iadd hx hb dL_law_928 ?_
  refine va_sld hx hb hX hbl hbA hS (l_in (k := 3) hi hL (by decide)) dL_law_929 ?_
  refine k_goi (va_runV (As := [.int (xs ((nI i) + 1).toNatClampNeg), .int (xs ((nI i) + 2).toNatClampNeg), .int (xs ((nI i) + 3).toNatClampNeg)]) (rest := [.int r]) ⟨hx, hb, hml, hown, hts⟩ (zX6_part l D cy sa q2 (WX q cy u1 ++ (IW cy i0 ++ IW cy i1)) H.size v (xs ((nI i) + 1).toNatClampNeg) (xs ((nI i) + 2).toNatClampNeg) (xs ((nI i) + 3).toNatClampNeg) (r, v1) e2) (cwV 3 hts (gB_V wB791 wB792 wB793 wB5 wB794) rfl rfl rfl (by decide +kernel) ⟨Nat.le_of_ble_eq_true rfl, Nat.le_of_ble_eq_true rfl⟩) ⟨kP.blind, k_recv hE hP (ci := 6) (q0 := 0) rfl rfl, k_pre hP hD hS hE hA⟩ rfl rfl hl.1 rfl (lv_room (Nat.le_of_ble_eq_true rfl)) dL_law_930 ⟨hcs, hss⟩) hD hS hA (fun H locs hP hD hS => ?_)
  have hP : va_P D vwCl (WM q2 cy v1 ++ (WX q cy u1 ++ (IW cy i0 ++ IW cy i1))) H := hP
  have hD : va_D (l_A s) (WM q2 cy v1 ++ (WX q cy u1 ++ (IW cy i0 ++ IW cy i1))) := hD
  have hP := l_ofP hP
  have hD := l_ofD hD
  refine lv_icmp_eq (tgt := 1123) hx hb dL_law_933 (by decide) (fun c9 => ?_) (fun c9 => absurd rfl c9)
  refine va_forget hS.2.2 ?_
  have hS : va_S (l_A s) s.heap H [] := ⟨hS.1, hS.2.1, fun l h => by cases h⟩
  exact K u1 v1 _ hR1 hO hP hD hS
set_option maxHeartbeats 1000000 in
theorem lc_takes (hx : p.tables.exec = Jvm.exec) (hb : c.code = code) (hml : c.maxLocals = 4) (hown : s.vm.findClass RL = some m.cls) (hts : ∀ w ∈ wsL_law, w.before #[Value.ref b] s = true) (hX : va_X b L xs s s.heap) (hbl : b < s.heap.size) (hE : kE D cy sa (l_A s) s s.heap) (hi : i + 5 ≤ L) (hL : L ≤ 2560) (hcs : cells ≤ room_1.cells) (hss : slots ≤ room_1.slots) (hM : LM_takes R) (hR : R u (i0.map Prod.snd) (i1.map Prod.snd) v) (hP : va_P D vwCl (LWd q q2 cy u v i0 i1) H) (hD : va_D (l_A s) (LWd q q2 cy u v i0 i1)) (hS : va_S (l_A s) s.heap H []) (hl : lv_has ls 4 [(0, .ref b), (1, .ref (q 0)), (2, .ref (q2 0)), (3, .int (nI i))]) (K : ∀ (u1 v1 : KS) (H : Heap), R u1 (i0.map Prod.snd) (i1.map Prod.snd) v1 → gO u1 = gO u → va_P D vwCl (LWd q q2 cy u1 v1 i0 i1) H → va_D (l_A s) (LWd q q2 cy u1 v1 i0 i1) → va_S (l_A s) s.heap H [] → W p l e room_1 s m #[Value.ref b] below meth c H [] cells slots Z (F0 m 1123 ls [])) : W p l e room_1 s m #[Value.ref b] below meth c H [] cells slots Z (F0 m 938 ls []) := by
  have hA : ∀ x : Nat, s.heap.size ≤ x → l_A s x := fun x h => h
  have hbA : ¬ l_A s b := Nat.not_le.mpr hbl
  obtain ⟨r, u1, v1, e1, e2, hR1, hO⟩ := hM u _ _ v (xs ((nI i) + 1).toNatClampNeg) hR
  have hP : va_P D vwCl (WX q cy u ++ (IW cy i0 ++ (IW cy i1 ++ WM q2 cy v))) H := hP
  have hD : va_D (l_A s) (WX q cy u ++ (IW cy i0 ++ (IW cy i1 ++ WM q2 cy v))) := hD
  refine lv_aload_n hx hb dL_law_938 rfl (lv_at hl 1 rfl) ?_
  refine lv_aload_n hx hb dL_law_939 rfl (lv_at hl 0 rfl) ?_
  refine lv_iload_n hx hb dL_law_940 rfl (lv_at hl 3 rfl) ?_
  refine lv_iconst (v := 1) hx hb dL_law_941 (by decide) ?_
  refine lv_iadd hx hb dL_law_942 ?_
  refine va_sld hx hb hX hbl hbA hS (l_in (k := 1) hi hL (by decide)) dL_law_943 ?_
  refine k_goi (va_runV (As := [.int (xs ((nI i) + 1).toNatClampNeg)]) (rest := []) ⟨hx, hb, hml, hown, hts⟩ (zX5_takes l D cy sa q (IW cy i0 ++ (IW cy i1 ++ WM q2 cy v)) H.size u (xs ((nI i) + 1).toNatClampNeg) (r, u1) e1) (cwV 1 hts (gB_V wB795 wB796 wB797 wB2 wB798) rfl rfl rfl (by decide +kernel) ⟨Nat.le_of_ble_eq_true rfl, Nat.le_of_ble_eq_true rfl⟩) ⟨kP.blind, k_recv hE hP (ci := 5) (q0 := 0) rfl rfl, k_pre hP hD hS hE hA⟩ rfl rfl hl.1 rfl (lv_room (Nat.le_of_ble_eq_true rfl)) dL_law_944 ⟨hcs, hss⟩) hD hS hA (fun H locs hP hD hS => ?_)
  have hP : va_P D vwCl (WX q cy u1 ++ (IW cy i0 ++ (IW cy i1 ++ WM q2 cy v))) H := hP
  have hD : va_D (l_A s) (WX q cy u1 ++ (IW cy i0 ++ (IW cy i1 ++ WM q2 cy v))) := hD
  have hP := l_toP hP
  have hD := l_toD hD
  refine lv_aload_n hx hb dL_law_947 rfl (lv_at hl 2 rfl) ?_
  refine lv_aload_n hx hb dL_law_948 rfl (lv_at hl 0 rfl) ?_
  refine lv_iload_n hx hb dL_law_949 rfl (lv_at hl 3 rfl) ?_
  refine lv_iconst (v := 1) hx hb dL_law_950 (by decide) ?_
  refine lv_iadd hx hb dL_law_951 ?_
  refine va_sld hx hb hX hbl hbA hS (l_in (k := 1) hi hL (by decide)) dL_law_952 ?_
  refine k_goi (va_runV (As := [.int (xs ((nI i) + 1).toNatClampNeg)]) (rest := [.int r]) ⟨hx, hb, hml, hown, hts⟩ (zX6_takes l D cy sa q2 (WX q cy u1 ++ (IW cy i0 ++ IW cy i1)) H.size v (xs ((nI i) + 1).toNatClampNeg) (r, v1) e2) (cwV 1 hts (gB_V wB808 wB809 wB810 wB5 wB811) rfl rfl rfl (by decide +kernel) ⟨Nat.le_of_ble_eq_true rfl, Nat.le_of_ble_eq_true rfl⟩) ⟨kP.blind, k_recv hE hP (ci := 6) (q0 := 0) rfl rfl, k_pre hP hD hS hE hA⟩ rfl rfl hl.1 rfl (lv_room (Nat.le_of_ble_eq_true rfl)) dL_law_953 ⟨hcs, hss⟩) hD hS hA (fun H locs hP hD hS => ?_)
  have hP : va_P D vwCl (WM q2 cy v1 ++ (WX q cy u1 ++ (IW cy i0 ++ IW cy i1))) H := hP
  have hD : va_D (l_A s) (WM q2 cy v1 ++ (WX q cy u1 ++ (IW cy i0 ++ IW cy i1))) := hD
  have hP := l_ofP hP
  have hD := l_ofD hD
  refine lv_icmp_eq (tgt := 1123) hx hb dL_law_956 (by decide) (fun c9 => ?_) (fun c9 => absurd rfl c9)
  refine va_forget hS.2.2 ?_
  have hS : va_S (l_A s) s.heap H [] := ⟨hS.1, hS.2.1, fun l h => by cases h⟩
  exact K u1 v1 _ hR1 hO hP hD hS
set_option maxHeartbeats 1000000 in
theorem lc_sign (hx : p.tables.exec = Jvm.exec) (hb : c.code = code) (hml : c.maxLocals = 4) (hown : s.vm.findClass RL = some m.cls) (hts : ∀ w ∈ wsL_law, w.before #[Value.ref b] s = true) (hX : va_X b L xs s s.heap) (hbl : b < s.heap.size) (hE : kE D cy sa (l_A s) s s.heap) (hi : i + 5 ≤ L) (hL : L ≤ 2560) (hcs : cells ≤ room_1.cells) (hss : slots ≤ room_1.slots) (hM : LM_sign R) (hR : R u (i0.map Prod.snd) (i1.map Prod.snd) v) (hP : va_P D vwCl (LWd q q2 cy u v i0 i1) H) (hD : va_D (l_A s) (LWd q q2 cy u v i0 i1)) (hS : va_S (l_A s) s.heap H []) (hl : lv_has ls 4 [(0, .ref b), (1, .ref (q 0)), (2, .ref (q2 0)), (3, .int (nI i))]) (K : ∀ (u1 v1 : KS) (H : Heap), R u1 (i0.map Prod.snd) (i1.map Prod.snd) v1 → gO u1 = gO u → va_P D vwCl (LWd q q2 cy u1 v1 i0 i1) H → va_D (l_A s) (LWd q q2 cy u1 v1 i0 i1) → va_S (l_A s) s.heap H [] → W p l e room_1 s m #[Value.ref b] below meth c H [] cells slots Z (F0 m 1123 ls [])) : W p l e room_1 s m #[Value.ref b] below meth c H [] cells slots Z (F0 m 961 ls []) := by
  have hA : ∀ x : Nat, s.heap.size ≤ x → l_A s x := fun x h => h
  have hbA : ¬ l_A s b := Nat.not_le.mpr hbl
  obtain ⟨r, u1, v1, e1, e2, hR1, hO⟩ := hM u _ _ v (xs ((nI i) + 1).toNatClampNeg) hR
  have hP : va_P D vwCl (WX q cy u ++ (IW cy i0 ++ (IW cy i1 ++ WM q2 cy v))) H := hP
  have hD : va_D (l_A s) (WX q cy u ++ (IW cy i0 ++ (IW cy i1 ++ WM q2 cy v))) := hD
  refine lv_aload_n hx hb dL_law_961 rfl (lv_at hl 1 rfl) ?_
  refine lv_aload_n hx hb dL_law_962 rfl (lv_at hl 0 rfl) ?_
  refine lv_iload_n hx hb dL_law_963 rfl (lv_at hl 3 rfl) ?_
  refine lv_iconst (v := 1) hx hb dL_law_964 (by decide) ?_
  refine lv_iadd hx hb dL_law_965 ?_
  refine va_sld hx hb hX hbl hbA hS (l_in (k := 1) hi hL (by decide)) dL_law_966 ?_
  refine k_goi (va_runV (As := [.int (xs ((nI i) + 1).toNatClampNeg)]) (rest := []) ⟨hx, hb, hml, hown, hts⟩ (zX5_sign l D cy sa q (IW cy i0 ++ (IW cy i1 ++ WM q2 cy v)) H.size u (xs ((nI i) + 1).toNatClampNeg) (r, u1) e1) (cwV 1 hts (gB_V wB812 wB813 wB814 wB2 wB815) rfl rfl rfl (by decide +kernel) ⟨Nat.le_of_ble_eq_true rfl, Nat.le_of_ble_eq_true rfl⟩) ⟨kP.blind, k_recv hE hP (ci := 5) (q0 := 0) rfl rfl, k_pre hP hD hS hE hA⟩ rfl rfl hl.1 rfl (lv_room (Nat.le_of_ble_eq_true rfl)) dL_law_967 ⟨hcs, hss⟩) hD hS hA (fun H locs hP hD hS => ?_)
  have hP : va_P D vwCl (WX q cy u1 ++ (IW cy i0 ++ (IW cy i1 ++ WM q2 cy v))) H := hP
  have hD : va_D (l_A s) (WX q cy u1 ++ (IW cy i0 ++ (IW cy i1 ++ WM q2 cy v))) := hD
  have hP := l_toP hP
  have hD := l_toD hD
  refine lv_aload_n hx hb dL_law_970 rfl (lv_at hl 2 rfl) ?_
  refine lv_aload_n hx hb dL_law_971 rfl (lv_at hl 0 rfl) ?_
  refine lv_iload_n hx hb dL_law_972 rfl (lv_at hl 3 rfl) ?_
  refine lv_iconst (v := 1) hx hb dL_law_973 (by decide) ?_
  refine lv_iadd hx hb dL_law_974 ?_
  refine va_sld hx hb hX hbl hbA hS (l_in (k := 1) hi hL (by decide)) dL_law_975 ?_
  refine k_goi (va_runV (As := [.int (xs ((nI i) + 1).toNatClampNeg)]) (rest := [.int r]) ⟨hx, hb, hml, hown, hts⟩ (zX6_sign l D cy sa q2 (WX q cy u1 ++ (IW cy i0 ++ IW cy i1)) H.size v (xs ((nI i) + 1).toNatClampNeg) (r, v1) e2) (cwV 1 hts (gB_V wB825 wB826 wB827 wB5 wB828) rfl rfl rfl (by decide +kernel) ⟨Nat.le_of_ble_eq_true rfl, Nat.le_of_ble_eq_true rfl⟩) ⟨kP.blind, k_recv hE hP (ci := 6) (q0 := 0) rfl rfl, k_pre hP hD hS hE hA⟩ rfl rfl hl.1 rfl (lv_room (Nat.le_of_ble_eq_true rfl)) dL_law_976 ⟨hcs, hss⟩) hD hS hA (fun H locs hP hD hS => ?_)
  have hP : va_P D vwCl (WM q2 cy v1 ++ (WX q cy u1 ++ (IW cy i0 ++ IW cy i1))) H := hP
  have hD : va_D (l_A s) (WM q2 cy v1 ++ (WX q cy u1 ++ (IW cy i0 ++ IW cy i1))) := hD
  have hP := l_ofP hP
  have hD := l_ofD hD
  refine lv_icmp_eq (tgt := 1123) hx hb dL_law_979 (by decide) (fun c9 => ?_) (fun c9 => absurd rfl c9)
  refine va_forget hS.2.2 ?_
  have hS : va_S (l_A s) s.heap H [] := ⟨hS.1, hS.2.1, fun l h => by cases h⟩
  exact K u1 v1 _ hR1 hO hP hD hS
set_option maxHeartbeats 1000000 in
theorem lc_limb (hx : p.tables.exec = Jvm.exec) (hb : c.code = code) (hml : c.maxLocals = 4) (hown : s.vm.findClass RL = some m.cls) (hts : ∀ w ∈ wsL_law, w.before #[Value.ref b] s = true) (hX : va_X b L xs s s.heap) (hbl : b < s.heap.size) (hE : kE D cy sa (l_A s) s s.heap) (hi : i + 5 ≤ L) (hL : L ≤ 2560) (hcs : cells ≤ room_1.cells) (hss : slots ≤ room_1.slots) (hM : LM_limb R) (hR : R u (i0.map Prod.snd) (i1.map Prod.snd) v) (hP : va_P D vwCl (LWd q q2 cy u v i0 i1) H) (hD : va_D (l_A s) (LWd q q2 cy u v i0 i1)) (hS : va_S (l_A s) s.heap H []) (hl : lv_has ls 4 [(0, .ref b), (1, .ref (q 0)), (2, .ref (q2 0)), (3, .int (nI i))]) (K : ∀ (u1 v1 : KS) (H : Heap), R u1 (i0.map Prod.snd) (i1.map Prod.snd) v1 → gO u1 = gO u → va_P D vwCl (LWd q q2 cy u1 v1 i0 i1) H → va_D (l_A s) (LWd q q2 cy u1 v1 i0 i1) → va_S (l_A s) s.heap H [] → W p l e room_1 s m #[Value.ref b] below meth c H [] cells slots Z (F0 m 1123 ls [])) : W p l e room_1 s m #[Value.ref b] below meth c H [] cells slots Z (F0 m 984 ls []) := by
  have hA : ∀ x : Nat, s.heap.size ≤ x → l_A s x := fun x h => h
  have hbA : ¬ l_A s b := Nat.not_le.mpr hbl
  obtain ⟨r, u1, v1, e1, e2, hR1, hO⟩ := hM u _ _ v (xs ((nI i) + 1).toNatClampNeg) (xs ((nI i) + 2).toNatClampNeg) hR
  have hP : va_P D vwCl (WX q cy u ++ (IW cy i0 ++ (IW cy i1 ++ WM q2 cy v))) H := hP
  have hD : va_D (l_A s) (WX q cy u ++ (IW cy i0 ++ (IW cy i1 ++ WM q2 cy v))) := hD
  refine lv_aload_n hx hb dL_law_984 rfl (lv_at hl 1 rfl) ?_
  refine lv_aload_n hx hb dL_law_985 rfl (lv_at hl 0 rfl) ?_
  refine lv_iload_n hx hb dL_law_986 rfl (lv_at hl 3 rfl) ?_
  refine lv_iconst (v := 1) hx hb dL_law_987 (by decide) ?_
  refine lv_iadd hx hb dL_law_988 ?_
  refine va_sld hx hb hX hbl hbA hS (l_in (k := 1) hi hL (by decide)) dL_law_989 ?_
  refine lv_aload_n hx hb dL_law_990 rfl (lv_at hl 0 rfl) ?_
  refine lv_iload_n hx hb dL_law_991 rfl (lv_at hl 3 rfl) ?_
  refine lv_iconst (v := 2) hx hb dL_law_992 (by decide) ?_
  refine lv_iadd hx hb dL_law_993 ?_
  refine va_sld hx hb hX hbl hbA hS (l_in (k := 2) hi hL (by decide)) dL_law_994 ?_
  refine k_goi (va_runV (As := [.int (xs ((nI i) + 1).toNatClampNeg), .int (xs ((nI i) + 2).toNatClampNeg)]) (rest := []) ⟨hx, hb, hml, hown, hts⟩ (zX5_limb l D cy sa q (IW cy i0 ++ (IW cy i1 ++ WM q2 cy v)) H.size u (xs ((nI i) + 1).toNatClampNeg) (xs ((nI i) + 2).toNatClampNeg) (r, u1) e1) (cwV 2 hts (gB_V wB833 wB834 wB835 wB2 wB836) rfl rfl rfl (by decide +kernel) ⟨Nat.le_of_ble_eq_true rfl, Nat.le_of_ble_eq_true rfl⟩) ⟨kP.blind, k_recv hE hP (ci := 5) (q0 := 0) rfl rfl, k_pre hP hD hS hE hA⟩ rfl rfl hl.1 rfl (lv_room (Nat.le_of_ble_eq_true rfl)) dL_law_995 ⟨hcs, hss⟩) hD hS hA (fun H locs hP hD hS => ?_)
  have hP : va_P D vwCl (WX q cy u1 ++ (IW cy i0 ++ (IW cy i1 ++ WM q2 cy v))) H := hP
  have hD : va_D (l_A s) (WX q cy u1 ++ (IW cy i0 ++ (IW cy i1 ++ WM q2 cy v))) := hD
  have hP := l_toP hP
  have hD := l_toD hD
  refine lv_aload_n hx hb dL_law_998 rfl (lv_at hl 2 rfl) ?_
  refine lv_aload_n hx hb dL_law_999 rfl (lv_at hl 0 rfl) ?_
  refine lv_iload_n hx hb dL_law_1000 rfl (lv_at hl 3 rfl) ?_
  refine lv_iconst (v := 1) hx hb dL_law_1001 (by decide) ?_
  refine lv_iadd hx hb dL_law_1002 ?_
  refine va_sld hx hb hX hbl hbA hS (l_in (k := 1) hi hL (by decide)) dL_law_1003 ?_
  refine lv_aload_n hx hb dL_law_1004 rfl (lv_at hl 0 rfl) ?_
  refine lv_iload_n hx hb dL_law_1005 rfl (lv_at hl 3 rfl) ?_
  refine lv_iconst (v := 2) hx hb dL_law_1006 (by decide) ?_
  refine lv_iadd hx hb dL_law_1007 ?_
  refine va_sld hx hb hX hbl hbA hS (l_in (k := 2) hi hL (by decide)) dL_law_1008 ?_
  refine k_goi (va_runV (As := [.int (xs ((nI i) + 1).toNatClampNeg), .int (xs ((nI i) + 2).toNatClampNeg)]) (rest := [.int r]) ⟨hx, hb, hml, hown, hts⟩ (zX6_limb l D cy sa q2 (WX q cy u1 ++ (IW cy i0 ++ IW cy i1)) H.size v (xs ((nI i) + 1).toNatClampNeg) (xs ((nI i) + 2).toNatClampNeg) (r, v1) e2) (cwV 2 hts (gB_V wB841 wB842 wB843 wB5 wB844) rfl rfl rfl (by decide +kernel) ⟨Nat.le_of_ble_eq_true rfl, Nat.le_of_ble_eq_true rfl⟩) ⟨kP.blind, k_recv hE hP (ci := 6) (q0 := 0) rfl rfl, k_pre hP hD hS hE hA⟩ rfl rfl hl.1 rfl (lv_room (Nat.le_of_ble_eq_true rfl)) dL_law_1009 ⟨hcs, hss⟩) hD hS hA (fun H locs hP hD hS => ?_)
  have hP : va_P D vwCl (WM q2 cy v1 ++ (WX q cy u1 ++ (IW cy i0 ++ IW cy i1))) H := hP
  have hD : va_D (l_A s) (WM q2 cy v1 ++ (WX q cy u1 ++ (IW cy i0 ++ IW cy i1))) := hD
  have hP := l_ofP hP
  have hD := l_ofD hD
  refine lv_icmp_eq (tgt := 1123) hx hb dL_law_1012 (by decide) (fun c9 => ?_) (fun c9 => absurd rfl c9)
  refine va_forget hS.2.2 ?_
  have hS : va_S (l_A s) s.heap H [] := ⟨hS.1, hS.2.1, fun l h => by cases h⟩
  exact K u1 v1 _ hR1 hO hP hD hS
set_option maxHeartbeats 1000000 in
theorem lc_status (hx : p.tables.exec = Jvm.exec) (hb : c.code = code) (hml : c.maxLocals = 4) (hown : s.vm.findClass RL = some m.cls) (hts : ∀ w ∈ wsL_law, w.before #[Value.ref b] s = true) (hX : va_X b L xs s s.heap) (hbl : b < s.heap.size) (hE : kE D cy sa (l_A s) s s.heap) (hi : i + 5 ≤ L) (hL : L ≤ 2560) (hcs : cells ≤ room_1.cells) (hss : slots ≤ room_1.slots) (hM : LM_status R) (hR : R u (i0.map Prod.snd) (i1.map Prod.snd) v) (hP : va_P D vwCl (LWd q q2 cy u v i0 i1) H) (hD : va_D (l_A s) (LWd q q2 cy u v i0 i1)) (hS : va_S (l_A s) s.heap H []) (hl : lv_has ls 4 [(0, .ref b), (1, .ref (q 0)), (2, .ref (q2 0)), (3, .int (nI i))]) (K : ∀ (u1 v1 : KS) (H : Heap), R u1 (i0.map Prod.snd) (i1.map Prod.snd) v1 → gO u1 = gO u → va_P D vwCl (LWd q q2 cy u1 v1 i0 i1) H → va_D (l_A s) (LWd q q2 cy u1 v1 i0 i1) → va_S (l_A s) s.heap H [] → W p l e room_1 s m #[Value.ref b] below meth c H [] cells slots Z (F0 m 1123 ls [])) : W p l e room_1 s m #[Value.ref b] below meth c H [] cells slots Z (F0 m 1063 ls []) := by
  have hA : ∀ x : Nat, s.heap.size ≤ x → l_A s x := fun x h => h
  have hbA : ¬ l_A s b := Nat.not_le.mpr hbl
  obtain ⟨r, u1, v1, e1, e2, hR1, hO⟩ := hM u _ _ v (xs ((nI i) + 1).toNatClampNeg) hR
  have hP : va_P D vwCl (WX q cy u ++ (IW cy i0 ++ (IW cy i1 ++ WM q2 cy v))) H := hP
  have hD : va_D (l_A s) (WX q cy u ++ (IW cy i0 ++ (IW cy i1 ++ WM q2 cy v))) := hD
  refine lv_aload_n hx hb dL_law_1063 rfl (lv_at hl 1 rfl) ?_
  refine lv_aload_n hx hb dL_law_1064 rfl (lv_at hl 0 rfl) ?_
  refine lv_iload_n hx hb dL_law_1065 rfl (lv_at hl 3 rfl) ?_
  refine lv_iconst (v := 1) hx hb dL_law_1066 (by decide) ?_
  refine lv_iadd hx hb dL_law_1067 ?_
  refine va_sld hx hb hX hbl hbA hS (l_in (k := 1) hi hL (by decide)) dL_law_1068 ?_
  refine k_goi (va_runV (As := [.int (xs ((nI i) + 1).toNatClampNeg)]) (rest := []) ⟨hx, hb, hml, hown, hts⟩ (zX5_status l D cy sa q (IW cy i0 ++ (IW cy i1 ++ WM q2 cy v)) H.size u (xs ((nI i) + 1).toNatClampNeg) (r, u1) e1) (cwV 1 hts (gB_V wB869 wB870 wB871 wB2 wB872) rfl rfl rfl (by decide +kernel) ⟨Nat.le_of_ble_eq_true rfl, Nat.le_of_ble_eq_true rfl⟩) ⟨kP.blind, k_recv hE hP (ci := 5) (q0 := 0) rfl rfl, k_pre hP hD hS hE hA⟩ rfl rfl hl.1 rfl (lv_room (Nat.le_of_ble_eq_true rfl)) dL_law_1069 ⟨hcs, hss⟩) hD hS hA (fun H locs hP hD hS => ?_)
  have hP : va_P D vwCl (WX q cy u1 ++ (IW cy i0 ++ (IW cy i1 ++ WM q2 cy v))) H := hP
  have hD : va_D (l_A s) (WX q cy u1 ++ (IW cy i0 ++ (IW cy i1 ++ WM q2 cy v))) := hD
  have hP := l_toP hP
  have hD := l_toD hD
  refine lv_aload_n hx hb dL_law_1072 rfl (lv_at hl 2 rfl) ?_
  refine lv_aload_n hx hb dL_law_1073 rfl (lv_at hl 0 rfl) ?_
  refine lv_iload_n hx hb dL_law_1074 rfl (lv_at hl 3 rfl) ?_
  refine lv_iconst (v := 1) hx hb dL_law_1075 (by decide) ?_
  refine lv_iadd hx hb dL_law_1076 ?_
  refine va_sld hx hb hX hbl hbA hS (l_in (k := 1) hi hL (by decide)) dL_law_1077 ?_
  refine k_goi (va_runV (As := [.int (xs ((nI i) + 1).toNatClampNeg)]) (rest := [.int r]) ⟨hx, hb, hml, hown, hts⟩ (zX6_status l D cy sa q2 (WX q cy u1 ++ (IW cy i0 ++ IW cy i1)) H.size v (xs ((nI i) + 1).toNatClampNeg) (r, v1) e2) (cwV 1 hts (gB_V wB873 wB874 wB875 wB5 wB876) rfl rfl rfl (by decide +kernel) ⟨Nat.le_of_ble_eq_true rfl, Nat.le_of_ble_eq_true rfl⟩) ⟨kP.blind, k_recv hE hP (ci := 6) (q0 := 0) rfl rfl, k_pre hP hD hS hE hA⟩ rfl rfl hl.1 rfl (lv_room (Nat.le_of_ble_eq_true rfl)) dL_law_1078 ⟨hcs, hss⟩) hD hS hA (fun H locs hP hD hS => ?_)
  have hP : va_P D vwCl (WM q2 cy v1 ++ (WX q cy u1 ++ (IW cy i0 ++ IW cy i1))) H := hP
  have hD : va_D (l_A s) (WM q2 cy v1 ++ (WX q cy u1 ++ (IW cy i0 ++ IW cy i1))) := hD
  have hP := l_ofP hP
  have hD := l_ofD hD
  refine lv_icmp_eq (tgt := 1123) hx hb dL_law_1081 (by decide) (fun c9 => ?_) (fun c9 => absurd rfl c9)
  refine va_forget hS.2.2 ?_
  have hS : va_S (l_A s) s.heap H [] := ⟨hS.1, hS.2.1, fun l h => by cases h⟩
  exact K u1 v1 _ hR1 hO hP hD hS
set_option maxHeartbeats 1000000 in
theorem lc_count (hx : p.tables.exec = Jvm.exec) (hb : c.code = code) (hml : c.maxLocals = 4) (hown : s.vm.findClass RL = some m.cls) (hts : ∀ w ∈ wsL_law, w.before #[Value.ref b] s = true) (hX : va_X b L xs s s.heap) (hbl : b < s.heap.size) (hE : kE D cy sa (l_A s) s s.heap) (hi : i + 5 ≤ L) (hL : L ≤ 2560) (hcs : cells ≤ room_1.cells) (hss : slots ≤ room_1.slots) (hM : LM_count R) (hR : R u (i0.map Prod.snd) (i1.map Prod.snd) v) (hP : va_P D vwCl (LWd q q2 cy u v i0 i1) H) (hD : va_D (l_A s) (LWd q q2 cy u v i0 i1)) (hS : va_S (l_A s) s.heap H []) (hl : lv_has ls 4 [(0, .ref b), (1, .ref (q 0)), (2, .ref (q2 0)), (3, .int (nI i))]) (K : ∀ (u1 v1 : KS) (H : Heap), R u1 (i0.map Prod.snd) (i1.map Prod.snd) v1 → gO u1 = gO u → va_P D vwCl (LWd q q2 cy u1 v1 i0 i1) H → va_D (l_A s) (LWd q q2 cy u1 v1 i0 i1) → va_S (l_A s) s.heap H [] → W p l e room_1 s m #[Value.ref b] below meth c H [] cells slots Z (F0 m 1123 ls [])) : W p l e room_1 s m #[Value.ref b] below meth c H [] cells slots Z (F0 m 1086 ls []) := by
  have hA : ∀ x : Nat, s.heap.size ≤ x → l_A s x := fun x h => h
  have hbA : ¬ l_A s b := Nat.not_le.mpr hbl
  obtain ⟨r, u1, v1, e1, e2, hR1, hO⟩ := hM u _ _ v (xs ((nI i) + 1).toNatClampNeg) hR
  have hP : va_P D vwCl (WX q cy u ++ (IW cy i0 ++ (IW cy i1 ++ WM q2 cy v))) H := hP
  have hD : va_D (l_A s) (WX q cy u ++ (IW cy i0 ++ (IW cy i1 ++ WM q2 cy v))) := hD
  refine lv_aload_n hx hb dL_law_1086 rfl (lv_at hl 1 rfl) ?_
  refine lv_aload_n hx hb dL_law_1087 rfl (lv_at hl 0 rfl) ?_
  refine lv_iload_n hx hb dL_law_1088 rfl (lv_at hl 3 rfl) ?_
  refine lv_iconst (v := 1) hx hb dL_law_1089 (by decide) ?_
  refine lv_iadd hx hb dL_law_1090 ?_
  refine va_sld hx hb hX hbl hbA hS (l_in (k := 1) hi hL (by decide)) dL_law_1091 ?_
  refine k_goi (va_runV (As := [.int (xs ((nI i) + 1).toNatClampNeg)]) (rest := []) ⟨hx, hb, hml, hown, hts⟩ (zX5_count l D cy sa q (IW cy i0 ++ (IW cy i1 ++ WM q2 cy v)) H.size u (xs ((nI i) + 1).toNatClampNeg) (r, u1) e1) (cwV 1 hts (gB_V wB877 wB878 wB879 wB2 wB880) rfl rfl rfl (by decide +kernel) ⟨Nat.le_of_ble_eq_true rfl, Nat.le_of_ble_eq_true rfl⟩) ⟨kP.blind, k_recv hE hP (ci := 5) (q0 := 0) rfl rfl, k_pre hP hD hS hE hA⟩ rfl rfl hl.1 rfl (lv_room (Nat.le_of_ble_eq_true rfl)) dL_law_1092 ⟨hcs, hss⟩) hD hS hA (fun H locs hP hD hS => ?_)
  have hP : va_P D vwCl (WX q cy u1 ++ (IW cy i0 ++ (IW cy i1 ++ WM q2 cy v))) H := hP
  have hD : va_D (l_A s) (WX q cy u1 ++ (IW cy i0 ++ (IW cy i1 ++ WM q2 cy v))) := hD
  have hP := l_toP hP
  have hD := l_toD hD
  refine lv_aload_n hx hb dL_law_1095 rfl (lv_at hl 2 rfl) ?_
  refine lv_aload_n hx hb dL_law_1096 rfl (lv_at hl 0 rfl) ?_
  refine lv_iload_n hx hb dL_law_1097 rfl (lv_at hl 3 rfl) ?_
  refine lv_iconst (v := 1) hx hb dL_law_1098 (by decide) ?_
  refine lv_iadd hx hb dL_law_1099 ?_
  refine va_sld hx hb hX hbl hbA hS (l_in (k := 1) hi hL (by decide)) dL_law_1100 ?_
  refine k_goi (va_runV (As := [.int (xs ((nI i) + 1).toNatClampNeg)]) (rest := [.int r]) ⟨hx, hb, hml, hown, hts⟩ (zX6_count l D cy sa q2 (WX q cy u1 ++ (IW cy i0 ++ IW cy i1)) H.size v (xs ((nI i) + 1).toNatClampNeg) (r, v1) e2) (cwV 1 hts (gB_V wB889 wB890 wB891 wB5 wB892) rfl rfl rfl (by decide +kernel) ⟨Nat.le_of_ble_eq_true rfl, Nat.le_of_ble_eq_true rfl⟩) ⟨kP.blind, k_recv hE hP (ci := 6) (q0 := 0) rfl rfl, k_pre hP hD hS hE hA⟩ rfl rfl hl.1 rfl (lv_room (Nat.le_of_ble_eq_true rfl)) dL_law_1101 ⟨hcs, hss⟩) hD hS hA (fun H locs hP hD hS => ?_)
  have hP : va_P D vwCl (WM q2 cy v1 ++ (WX q cy u1 ++ (IW cy i0 ++ IW cy i1))) H := hP
  have hD : va_D (l_A s) (WM q2 cy v1 ++ (WX q cy u1 ++ (IW cy i0 ++ IW cy i1))) := hD
  have hP := l_ofP hP
  have hD := l_ofD hD
  refine lv_icmp_eq (tgt := 1123) hx hb dL_law_1104 (by decide) (fun c9 => ?_) (fun c9 => absurd rfl c9)
  refine va_forget hS.2.2 ?_
  have hS : va_S (l_A s) s.heap H [] := ⟨hS.1, hS.2.1, fun l h => by cases h⟩
  exact K u1 v1 _ hR1 hO hP hD hS
set_option maxHeartbeats 1000000 in
theorem lc_digest (hx : p.tables.exec = Jvm.exec) (hb : c.code = code) (hml : c.maxLocals = 4) (hown : s.vm.findClass RL = some m.cls) (hts : ∀ w ∈ wsL_law, w.before #[Value.ref b] s = true) (hX : va_X b L xs s s.heap) (hbl : b < s.heap.size) (hE : kE D cy sa (l_A s) s s.heap) (hi : i + 5 ≤ L) (hL : L ≤ 2560) (hcs : cells ≤ room_1.cells) (hss : slots ≤ room_1.slots) (hM : LM_digest R) (hR : R u (i0.map Prod.snd) (i1.map Prod.snd) v) (hP : va_P D vwCl (LWd q q2 cy u v i0 i1) H) (hD : va_D (l_A s) (LWd q q2 cy u v i0 i1)) (hS : va_S (l_A s) s.heap H []) (hl : lv_has ls 4 [(0, .ref b), (1, .ref (q 0)), (2, .ref (q2 0)), (3, .int (nI i))]) (K : ∀ (u1 v1 : KS) (H : Heap), R u1 (i0.map Prod.snd) (i1.map Prod.snd) v1 → gO u1 = gO u → va_P D vwCl (LWd q q2 cy u1 v1 i0 i1) H → va_D (l_A s) (LWd q q2 cy u1 v1 i0 i1) → va_S (l_A s) s.heap H [] → W p l e room_1 s m #[Value.ref b] below meth c H [] cells slots Z (F0 m 1123 ls [])) : W p l e room_1 s m #[Value.ref b] below meth c H [] cells slots Z (F0 m 1109 ls []) := by
  have hA : ∀ x : Nat, s.heap.size ≤ x → l_A s x := fun x h => h
  have hbA : ¬ l_A s b := Nat.not_le.mpr hbl
  obtain ⟨r, e1, e2, hR1⟩ := hM u _ _ v  hR
  have hO : gO u = gO u := rfl
  have hP : va_P D vwCl (WX q cy u ++ (IW cy i0 ++ (IW cy i1 ++ WM q2 cy v))) H := hP
  have hD : va_D (l_A s) (WX q cy u ++ (IW cy i0 ++ (IW cy i1 ++ WM q2 cy v))) := hD
  refine lv_aload_n hx hb dL_law_1109 rfl (lv_at hl 1 rfl) ?_
  refine k_gol (va_runV (As := []) (rest := []) ⟨hx, hb, hml, hown, hts⟩ (zX5_digest l D cy sa q (IW cy i0 ++ (IW cy i1 ++ WM q2 cy v)) H.size u  r e1) (cwV 0 hts (gB_V wB897 wB898 wB899 wB2 wB900) rfl rfl rfl (by decide +kernel) ⟨Nat.le_of_ble_eq_true rfl, Nat.le_of_ble_eq_true rfl⟩) ⟨kP.blind, k_recv hE hP (ci := 5) (q0 := 0) rfl rfl, k_pre hP hD hS hE hA⟩ rfl rfl hl.1 rfl (lv_room (Nat.le_of_ble_eq_true rfl)) dL_law_1110 ⟨hcs, hss⟩) hD hS hA (fun H locs hP hD hS => ?_)
  have hP : va_P D vwCl (WX q cy u ++ (IW cy i0 ++ (IW cy i1 ++ WM q2 cy v))) H := hP
  have hD : va_D (l_A s) (WX q cy u ++ (IW cy i0 ++ (IW cy i1 ++ WM q2 cy v))) := hD
  have hP := l_toP hP
  have hD := l_toD hD
  refine lv_aload_n hx hb dL_law_1113 rfl (lv_at hl 2 rfl) ?_
  refine k_gol (va_runV (As := []) (rest := [.long r]) ⟨hx, hb, hml, hown, hts⟩ (zX6_digest l D cy sa q2 (WX q cy u ++ (IW cy i0 ++ IW cy i1)) H.size v  r e2) (cwV 0 hts (gB_V wB906 wB907 wB908 wB5 wB909) rfl rfl rfl (by decide +kernel) ⟨Nat.le_of_ble_eq_true rfl, Nat.le_of_ble_eq_true rfl⟩) ⟨kP.blind, k_recv hE hP (ci := 6) (q0 := 0) rfl rfl, k_pre hP hD hS hE hA⟩ rfl rfl hl.1 rfl (lv_room (Nat.le_of_ble_eq_true rfl)) dL_law_1114 ⟨hcs, hss⟩) hD hS hA (fun H locs hP hD hS => ?_)
  have hP : va_P D vwCl (WM q2 cy v ++ (WX q cy u ++ (IW cy i0 ++ IW cy i1))) H := hP
  have hD : va_D (l_A s) (WM q2 cy v ++ (WX q cy u ++ (IW cy i0 ++ IW cy i1))) := hD
  have hP := l_ofP hP
  have hD := l_ofD hD
  refine W.lcmp hx hb dL_law_1117 ?_
  refine lv_if_eq (tgt := 1123) hx hb dL_law_1118 (by decide) (fun c9 => ?_) (fun c9 => absurd ((z_cmp0 _ _).mpr rfl) c9)
  refine va_forget hS.2.2 ?_
  have hS : va_S (l_A s) s.heap H [] := ⟨hS.1, hS.2.1, fun l h => by cases h⟩
  exact K u v _ hR1 hO hP hD hS
end LAWC
