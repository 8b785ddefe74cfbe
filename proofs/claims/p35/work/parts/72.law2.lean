abbrev l_A (s : State) : Nat → Prop := fun q => s.heap.size ≤ q
noncomputable def mL_lawA (sa : Nat → Nat) (u : KS) : Option KS :=
  (mL_tells sa u).bind fun r14 =>
  gd (¬ (r14.1 = 0)) ((mL_looked sa r14.2).bind fun r22 =>
  gd (¬ (r22.1 = 0)) ((mL_day sa r22.2 0).bind fun r38 =>
  some r38))
set_option maxRecDepth 100000 in
set_option maxHeartbeats 8000000 in
theorem zL_lawA {p : Program} {l : Launch} {e : Env} {s : State} {m : MethodId} {below : List Frame} {meth : Method} {c : Code} {D : va_G} {cy : Nat → ClassId} {sa : Nat → Nat} {A : Nat → Prop} {q : Nat → Nat} {cells slots : Nat} (hx : p.tables.exec = Jvm.exec) (hb : c.code = code) (hml : c.maxLocals = 27) (hr : meth.sig.returnType = ret) (hown : s.vm.findClass RL = some m.cls) (hts : ∀ w ∈ wsL_law, w.before #[Value.ref (sa 10)] s = true) (hlocks : meth.locks = false) (hA : ∀ x : Nat, s.heap.size ≤ x → A x) (hE : kE D cy sa A s s.heap) {rest : va_W} {u : KS} {res : KS} {H : Heap} {locs : List Loc} {ls : Array Slot} (hcs : cells + 1 + 1 ≤ room_1.cells) (hss : slots + 64 + 64 ≤ room_1.slots) (hP : va_P D vwCl (WX q cy u ++ rest) H) (hD : va_D A (WX q cy u ++ rest)) (hS : va_S A s.heap H locs) (hl : lv_has ls 27 [(1, .ref (q 0)), (0, .ref (sa 10))]) (hf : mL_lawA sa u = some res) (K : ∀ (t : Nat) (H : Heap) (locs : List Loc) (ls : Array Slot), va_P D vwCl (WX q cy res ++ ((t, .inl (cy 0, 64, .inl (gR res 20))) :: rest)) H → va_D A (WX q cy res ++ ((t, .inl (cy 0, 64, .inl (gR res 20))) :: rest)) → va_S A s.heap H locs → lv_has ls 27 [(4, .int 1), (2, .long 998244353), (1, .ref (q 0)), (0, .ref (sa 10))] → W p l e room_1 s m #[Value.ref (sa 10)] below meth c H locs (cells + 1 + 1) (slots + 64 + 64) (lw_Z below #[Value.ref (sa 10)] s) (F0 m 41 ls [.ref t])) : W p l e room_1 s m #[Value.ref (sa 10)] below meth c H locs cells slots (lw_Z below #[Value.ref (sa 10)] s) (F0 m 8 ls []) := by
  unfold mL_lawA at hf
  refine lv_ldc2 (v := 998244353) hx hb hown (hts _ wB3) dL_law_8 ?_
  refine lv_lstore_n (lv' := [(2, .long 998244353), (1, .ref (q 0)), (0, .ref (sa 10))]) hx hb dL_law_11 rfl hl (by decide) rfl (fun ls hl => ?_)
  refine lv_aload_n hx hb dL_law_12 rfl (lv_at hl 1 rfl) ?_
  refine lv_aload_n hx hb dL_law_13 rfl (lv_at hl 2 rfl) ?_
  obtain ⟨r14, h14r, hf⟩ := o_bs hf
  refine k_goiN (va_runS (As := [.ref (q 0), .ref (sa 10)]) (rest := []) ⟨hx, hb, hml, hown, hts⟩ (zL_tells l D cy sa q rest H.size u  r14 h14r) (va_cwS 2 hts (gB_S wB79 wB80 wB81 wB82) rfl rfl rfl (by decide +kernel) ⟨Nat.le_of_ble_eq_true rfl, Nat.le_of_ble_eq_true rfl⟩) ⟨kP.blind, k_pre hP hD hS hE hA⟩ rfl rfl hl.1 rfl (lv_room (Nat.le_of_ble_eq_true rfl)) dL_law_14 ⟨Nat.le_of_succ_le hcs, Nat.le_trans (Nat.le_add_right _ 64) hss⟩) hD hS hA (fun H locs hP hD hS => ?_)
  obtain ⟨hg17, hf⟩ := gd_s hf
  refine lv_if_eq (tgt := 32) hx hb dL_law_17 (by decide) (fun c17 => absurd c17 hg17) (fun c17 => ?_)
  refine lv_aload_n hx hb dL_law_20 rfl (lv_at hl 1 rfl) ?_
  refine lv_aload_n hx hb dL_law_21 rfl (lv_at hl 2 rfl) ?_
  obtain ⟨r22, h22r, hf⟩ := o_bs hf
  refine k_goi (va_runS (As := [.ref (q 0), .ref (sa 10)]) (rest := []) ⟨hx, hb, hml, hown, hts⟩ (zL_looked l D cy sa q rest H.size r14.2  r22 h22r) (va_cwS 2 hts (gB_S wB252 wB253 wB81 wB254) rfl rfl rfl (by decide +kernel) ⟨Nat.le_of_ble_eq_true rfl, Nat.le_of_ble_eq_true rfl⟩) ⟨kP.blind, k_pre hP hD hS hE hA⟩ rfl rfl hl.1 rfl (lv_room (Nat.le_of_ble_eq_true rfl)) dL_law_22 ⟨Nat.le_of_succ_le hcs, Nat.le_trans (Nat.le_add_right _ 64) hss⟩) hD hS hA (fun H locs hP hD hS => ?_)
  obtain ⟨hg25, hf⟩ := gd_s hf
  refine lv_if_eq (tgt := 32) hx hb dL_law_25 (by decide) (fun c25 => absurd c25 hg25) (fun c25 => ?_)
  refine lv_iconst (v := 1) hx hb dL_law_28 (by decide) ?_
  refine lv_goto (tgt := 33) hx hb dL_law_29 (by decide) ?_
  refine lv_istore (lv' := [(4, .int 1), (2, .long 998244353), (1, .ref (q 0)), (0, .ref (sa 10))]) hx hb dL_law_33 hl (by decide) rfl (fun ls hl => ?_)
  refine lv_aload_n hx hb dL_law_35 rfl (lv_at hl 2 rfl) ?_
  refine lv_aload_n hx hb dL_law_36 rfl (lv_at hl 3 rfl) ?_
  refine lv_iconst (v := 0) hx hb dL_law_37 (by decide) ?_
  obtain ⟨r38, h38r, hf⟩ := o_bs hf
  obtain rfl := (o_ret hf).symm
  refine k_gor (va_runS (As := [.ref (q 0), .ref (sa 10), .int 0]) (rest := []) ⟨hx, hb, hml, hown, hts⟩ (zL_day l D cy sa q rest H.size r22.2 0 r38 h38r) (va_cwS 3 hts (gB_S wB83 wB84 wB81 wB85) rfl rfl rfl (by decide +kernel) ⟨(Nat.le_of_ble_eq_true rfl), (Nat.le_of_ble_eq_true rfl)⟩) ⟨kP.blind, k_pre hP hD hS hE hA⟩ rfl rfl hl.1 rfl (lv_room (Nat.le_of_ble_eq_true rfl)) dL_law_38 ⟨hcs, hss⟩) hD hS hA (fun t H locs hP hD hS => ?_)
  exact K t _ _ _ hP hD hS (lv_sub hl [0, 1, 2, 3] rfl)
noncomputable def mL_lawC (u k : KS) (t0 : Nat) (many : Int32) : Option Unit :=
  (mX5_digest u).bind fun r1460 =>
  (mX5_put u 0 77).bind fun r1474 =>
  gd (¬ (r1474.1 < 0)) ((mX5_fault r1474.2 2 0 3).bind fun r1484 =>
  gd (r1484.1 = 1) ((mX5_clear r1484.2).bind fun r1492 =>
  gd (¬ (r1492.1 < 0)) (gd (gO r1492.2 ((1 : Int32).toNatClampNeg) = some t0) ((mX5_fromS r1492.2 k).bind fun r1500 =>
  gd (r1500.1 = 1) ((mX5_digest r1500.2).bind fun r1508 =>
  gd ((lg_cmp r1508 r1460) = 0) ((mX5_status r1500.2 2).bind fun r1531 =>
  gd (r1531.1 = 0) ((mX5_minutes r1531.2).bind fun r1538 =>
  gd (r1538.1 = many) (some ()))))))))
set_option maxRecDepth 100000 in
set_option maxHeartbeats 8000000 in
theorem zL_lawC {p : Program} {l : Launch} {e : Env} {s : State} {m : MethodId} {below : List Frame} {meth : Method} {c : Code} {D : va_G} {cy : Nat → ClassId} {sa : Nat → Nat} {A : Nat → Prop} {q : Nat → Nat} {cells slots : Nat} (hx : p.tables.exec = Jvm.exec) (hb : c.code = code) (hml : c.maxLocals = 27) (hr : meth.sig.returnType = ret) (hown : s.vm.findClass RL = some m.cls) (hts : ∀ w ∈ wsL_law, w.before #[Value.ref (sa 10)] s = true) (hlocks : meth.locks = false) (hA : ∀ x : Nat, s.heap.size ≤ x → A x) (hE : kE D cy sa A s s.heap) {rest rest0 : va_W} {u k : KS} {t : Nat → Nat} {many : Int32} {res : Unit} {H : Heap} {locs : List Loc} {ls : Array Slot} (hAl : A = l_A s) (hrest : rest = Wkept t cy k ++ rest0) (hcs : cells ≤ room_1.cells) (hss : slots ≤ room_1.slots) (hP : va_P D vwCl (WX q cy u ++ rest) H) (hD : va_D A (WX q cy u ++ rest)) (hS : va_S A s.heap H locs) (hl : lv_has ls 27 [(6, .int many), (1, .ref (q 0))]) (hf : mL_lawC u k (t 0) many = some res) : W p l e room_1 s m #[Value.ref (sa 10)] below meth c H locs cells slots (lw_Z below #[Value.ref (sa 10)] s) (F0 m 1448 ls [.int 1]) := by
  unfold mL_lawC at hf
  refine lv_iconst (v := 1) hx hb dL_law_1448 (by decide) ?_
  refine lv_icmp_ne (tgt := 1456) hx hb dL_law_1449 (by decide) (fun c1449 => absurd c1449 (by decide)) (fun c1449 => ?_)
  refine lv_iconst (v := 1) hx hb dL_law_1452 (by decide) ?_
  refine lv_goto (tgt := 1457) hx hb dL_law_1453 (by decide) ?_
  refine lv_istore (lv' := [(4, .int 1), (6, .int many), (1, .ref (q 0))]) hx hb dL_law_1457 hl (by decide) rfl (fun ls hl => ?_)
  refine lv_aload_n hx hb dL_law_1459 rfl (lv_at hl 2 rfl) ?_
  obtain ⟨r1460, h1460r, hf⟩ := o_bs hf
  refine k_gol (va_runV (As := []) (rest := []) ⟨hx, hb, hml, hown, hts⟩ (zX5_digest l D cy sa q rest H.size u  r1460 h1460r) (cwV 0 hts (gB_V wB584 wB585 wB586 wB2 wB587) rfl rfl rfl (by decide +kernel) ⟨Nat.le_of_ble_eq_true rfl, Nat.le_of_ble_eq_true rfl⟩) ⟨kP.blind, k_recv hE hP (ci := 5) (q0 := 0) rfl rfl, k_pre hP hD hS hE hA⟩ rfl rfl hl.1 rfl (lv_room (Nat.le_of_ble_eq_true rfl)) dL_law_1460 ⟨hcs, hss⟩) hD hS hA (fun H locs hP hD hS => ?_)
  refine lv_lstore (lv' := [(25, .long r1460), (4, .int 1), (6, .int many), (1, .ref (q 0))]) hx hb dL_law_1463 hl (by decide) rfl (fun ls hl => ?_)
  refine lv_iload hx hb dL_law_1465 (lv_at hl 1 rfl) ?_
  refine lv_if_eq (tgt := 1521) hx hb dL_law_1467 (by decide) (fun c1467 => absurd c1467 (by decide)) (fun c1467 => ?_)
  refine lv_aload_n hx hb dL_law_1470 rfl (lv_at hl 3 rfl) ?_
  refine lv_iconst (v := 0) hx hb dL_law_1471 (by decide) ?_
  refine lv_bipush (v := 77) hx hb dL_law_1472 (by decide) ?_
  obtain ⟨r1474, h1474r, hf⟩ := o_bs hf
  refine k_goi (va_runV (As := [.int 0, .int 77]) (rest := []) ⟨hx, hb, hml, hown, hts⟩ (zX5_put l D cy sa q rest H.size u 0 77 r1474 h1474r) (cwV 2 hts (gB_V wB132 wB133 wB134 wB2 wB135) rfl rfl rfl (by decide +kernel) ⟨Nat.le_of_ble_eq_true rfl, Nat.le_of_ble_eq_true rfl⟩) ⟨kP.blind, k_recv hE hP (ci := 5) (q0 := 0) rfl rfl, k_pre hP hD hS hE hA⟩ rfl rfl hl.1 rfl (lv_room (Nat.le_of_ble_eq_true rfl)) dL_law_1474 ⟨hcs, hss⟩) hD hS hA (fun H locs hP hD hS => ?_)
  obtain ⟨hg1477, hf⟩ := gd_s hf
  refine lv_if_lt (tgt := 1521) hx hb dL_law_1477 (by decide) (fun c1477 => absurd c1477 hg1477) (fun c1477 => ?_)
  refine lv_aload_n hx hb dL_law_1480 rfl (lv_at hl 3 rfl) ?_
  refine lv_iconst (v := 2) hx hb dL_law_1481 (by decide) ?_
  refine lv_iconst (v := 0) hx hb dL_law_1482 (by decide) ?_
  refine lv_iconst (v := 3) hx hb dL_law_1483 (by decide) ?_
  obtain ⟨r1484, h1484r, hf⟩ := o_bs hf
  refine k_goi (va_runV (As := [.int 2, .int 0, .int 3]) (rest := []) ⟨hx, hb, hml, hown, hts⟩ (zX5_fault l D cy sa q rest H.size r1474.2 2 0 3 r1484 h1484r) (cwV 3 hts (gB_V wB347 wB348 wB349 wB2 wB350) rfl rfl rfl (by decide +kernel) ⟨Nat.le_of_ble_eq_true rfl, Nat.le_of_ble_eq_true rfl⟩) ⟨kP.blind, k_recv hE hP (ci := 5) (q0 := 0) rfl rfl, k_pre hP hD hS hE hA⟩ rfl rfl hl.1 rfl (lv_room (Nat.le_of_ble_eq_true rfl)) dL_law_1484 ⟨hcs, hss⟩) hD hS hA (fun H locs hP hD hS => ?_)
  refine lv_iconst (v := 1) hx hb dL_law_1487 (by decide) ?_
  obtain ⟨hg1488, hf⟩ := gd_s hf
  refine lv_icmp_ne (tgt := 1521) hx hb dL_law_1488 (by decide) (fun c1488 => absurd hg1488 c1488) (fun c1488 => ?_)
  refine lv_aload_n hx hb dL_law_1491 rfl (lv_at hl 3 rfl) ?_
  obtain ⟨r1492, h1492r, hf⟩ := o_bs hf
  refine k_goi (va_runV (As := []) (rest := []) ⟨hx, hb, hml, hown, hts⟩ (zX5_clear l D cy sa q rest H.size r1484.2  r1492 h1492r) (cwV 0 hts (gB_V wB603 wB604 wB605 wB2 wB606) rfl rfl rfl (by decide +kernel) ⟨Nat.le_of_ble_eq_true rfl, Nat.le_of_ble_eq_true rfl⟩) ⟨kP.blind, k_recv hE hP (ci := 5) (q0 := 0) rfl rfl, k_pre hP hD hS hE hA⟩ rfl rfl hl.1 rfl (lv_room (Nat.le_of_ble_eq_true rfl)) dL_law_1492 ⟨hcs, hss⟩) hD hS hA (fun H locs hP hD hS => ?_)
  obtain ⟨hg1495, hf⟩ := gd_s hf
  refine lv_if_lt (tgt := 1521) hx hb dL_law_1495 (by decide) (fun c1495 => absurd c1495 hg1495) (fun c1495 => ?_)
  refine lv_aload_n hx hb dL_law_1498 rfl (lv_at hl 3 rfl) ?_
  refine lv_iconst (v := 1) hx hb dL_law_1499 (by decide) ?_
  obtain ⟨hgO, hf⟩ := gd_s hf
  obtain ⟨r1500, h1500r, hf⟩ := o_bs hf
  have hP : va_P D vwCl (WX q cy r1492.2 ++ (Wkept t cy k ++ rest0)) H := by rw [← hrest]; exact hP
  have hD : va_D A (WX q cy r1492.2 ++ (Wkept t cy k ++ rest0)) := by rw [← hrest]; exact hD
  refine k_goi (va_runV (As := [.int 1]) (rest := []) ⟨hx, hb, hml, hown, hts⟩ (zX5_from_s l D cy sa q rest0 H.size r1492.2 t k 1 r1500 (by decide) (by decide) (by decide) hgO h1500r) (cwV 1 hts (gB_V wB607 wB608 wB609 wB2 wB610) rfl rfl rfl (by decide +kernel) ⟨(Nat.le_of_ble_eq_true rfl), (Nat.le_of_ble_eq_true rfl)⟩) ⟨kP.blind, k_recv hE hP (ci := 5) (q0 := 0) rfl rfl, k_pre hP hD hS hE hA⟩ rfl rfl hl.1 rfl (lv_room (Nat.le_of_ble_eq_true rfl)) dL_law_1500 ⟨hcs, hss⟩) hD hS hA (fun H locs hP hD hS => ?_)
  have hP : va_P D vwCl (WX q cy r1500.2 ++ rest) H := by rw [hrest]; exact hP
  have hD : va_D A (WX q cy r1500.2 ++ rest) := by rw [hrest]; exact hD
  refine lv_iconst (v := 1) hx hb dL_law_1503 (by decide) ?_
  obtain ⟨hg1504, hf⟩ := gd_s hf
  refine lv_icmp_ne (tgt := 1521) hx hb dL_law_1504 (by decide) (fun c1504 => absurd hg1504 c1504) (fun c1504 => ?_)
  refine lv_aload_n hx hb dL_law_1507 rfl (lv_at hl 3 rfl) ?_
  obtain ⟨r1508, h1508r, hf⟩ := o_bs hf
  refine k_gol (va_runV (As := []) (rest := []) ⟨hx, hb, hml, hown, hts⟩ (zX5_digest l D cy sa q rest H.size r1500.2  r1508 h1508r) (cwV 0 hts (gB_V wB584 wB585 wB586 wB2 wB587) rfl rfl rfl (by decide +kernel) ⟨Nat.le_of_ble_eq_true rfl, Nat.le_of_ble_eq_true rfl⟩) ⟨kP.blind, k_recv hE hP (ci := 5) (q0 := 0) rfl rfl, k_pre hP hD hS hE hA⟩ rfl rfl hl.1 rfl (lv_room (Nat.le_of_ble_eq_true rfl)) dL_law_1508 ⟨hcs, hss⟩) hD hS hA (fun H locs hP hD hS => ?_)
  refine lv_lload hx hb dL_law_1511 (lv_at hl 0 rfl) ?_
  refine W.lcmp hx hb dL_law_1513 ?_
  obtain ⟨hg1514, hf⟩ := gd_s hf
  refine lv_if_ne (tgt := 1521) hx hb dL_law_1514 (by decide) (fun c1514 => absurd hg1514 c1514) (fun c1514 => ?_)
  refine lv_iconst (v := 1) hx hb dL_law_1517 (by decide) ?_
  refine lv_goto (tgt := 1522) hx hb dL_law_1518 (by decide) ?_
  refine lv_istore (lv' := [(4, .int 1), (25, .long r1460), (6, .int many), (1, .ref (q 0))]) hx hb dL_law_1522 hl (by decide) rfl (fun ls hl => ?_)
  refine lv_iload hx hb dL_law_1524 (lv_at hl 0 rfl) ?_
  refine lv_if_eq (tgt := 1550) hx hb dL_law_1526 (by decide) (fun c1526 => absurd c1526 (by decide)) (fun c1526 => ?_)
  refine lv_aload_n hx hb dL_law_1529 rfl (lv_at hl 3 rfl) ?_
  refine lv_iconst (v := 2) hx hb dL_law_1530 (by decide) ?_
  obtain ⟨r1531, h1531r, hf⟩ := o_bs hf
  refine k_goi (va_runV (As := [.int 2]) (rest := []) ⟨hx, hb, hml, hown, hts⟩ (zX5_status l D cy sa q rest H.size r1500.2 2 r1531 h1531r) (cwV 1 hts (gB_V wB611 wB612 wB613 wB2 wB614) rfl rfl rfl (by decide +kernel) ⟨Nat.le_of_ble_eq_true rfl, Nat.le_of_ble_eq_true rfl⟩) ⟨kP.blind, k_recv hE hP (ci := 5) (q0 := 0) rfl rfl, k_pre hP hD hS hE hA⟩ rfl rfl hl.1 rfl (lv_room (Nat.le_of_ble_eq_true rfl)) dL_law_1531 ⟨hcs, hss⟩) hD hS hA (fun H locs hP hD hS => ?_)
  obtain ⟨hg1534, hf⟩ := gd_s hf
  refine lv_if_ne (tgt := 1550) hx hb dL_law_1534 (by decide) (fun c1534 => absurd hg1534 c1534) (fun c1534 => ?_)
  refine lv_aload_n hx hb dL_law_1537 rfl (lv_at hl 3 rfl) ?_
  obtain ⟨r1538, h1538r, hf⟩ := o_bs hf
  refine k_goi (va_runV (As := []) (rest := []) ⟨hx, hb, hml, hown, hts⟩ (zX5_minutes l D cy sa q rest H.size r1531.2  r1538 h1538r) (cwV 0 hts (gB_V wB290 wB291 wB292 wB2 wB293) rfl rfl rfl (by decide +kernel) ⟨Nat.le_of_ble_eq_true rfl, Nat.le_of_ble_eq_true rfl⟩) ⟨kP.blind, k_recv hE hP (ci := 5) (q0 := 0) rfl rfl, k_pre hP hD hS hE hA⟩ rfl rfl hl.1 rfl (lv_room (Nat.le_of_ble_eq_true rfl)) dL_law_1538 ⟨hcs, hss⟩) hD hS hA (fun H locs hP hD hS => ?_)
  refine lv_iload hx hb dL_law_1541 (lv_at hl 2 rfl) ?_
  obtain ⟨hg1543, hf⟩ := gd_s hf
  refine lv_icmp_ne (tgt := 1550) hx hb dL_law_1543 (by decide) (fun c1543 => absurd hg1543 c1543) (fun c1543 => ?_)
  refine lv_iconst (v := 1) hx hb dL_law_1546 (by decide) ?_
  refine lv_goto (tgt := 1551) hx hb dL_law_1547 (by decide) ?_
  obtain rfl := o_ret hf
  subst hAl
  refine va_forget hS.2.2 ?_
  refine W.widen (k := 600000) (n := 7302250) hcs hss ?_
  exact lw_ret hx hb hr hlocks dL_law_1551
