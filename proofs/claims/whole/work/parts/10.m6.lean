noncomputable def mX6_guess (u : KS) (a1 : Int32) (a2 : Int32) : Option (Int32 × KS) :=
  (mX6_in (a1.toInt64) 0 2730).bind fun r6 =>
  if r6 = 0 then
  ((mX6_refuses u 0 (-10)).bind fun r28 =>
  some (r28.1, r28.2))
  else
  ((mX6_in (a2.toInt64) 0 3).bind fun r18 =>
  if r18 = 0 then
  ((mX6_refuses u 0 (-10)).bind fun r28 =>
  some (r28.1, r28.2))
  else
  ((mX6_opens u a1).bind fun r34 =>
  if (gI r34 6) = a2 then
  (some ((gI r34 8), r34))
  else
  (if (gI r34 7) = a2 then
  (some ((gI r34 9), r34))
  else
  (some ((-1), r34)))))
abbrev rmX6_guess : Room := { frames := 2, cells := 0, slots := 0, locals := 47 }
set_option maxRecDepth 100000 in
set_option maxHeartbeats 4000000 in
theorem zX6_guess (l : Launch) (D : va_G) (cy : Nat → ClassId) (sa : Nat → Nat) (q : Nat → Nat) (rest : va_W) (sz : Nat) (u : KS) (a1 : Int32) (a2 : Int32) (res : Int32 × KS) (hf : mX6_guess u a1 a2 = some res) : kMi l yX6_guess (wsK yX6_guess cX6_guess 3 (some .int)) rmX6_guess D cy sa (WM q cy u ++ rest) sz [.ref (q 0), .int a1, .int a2] res.1 (WM q cy res.2 ++ rest) 0 0 := by
  refine kM_of (Qc := fun A => kQi D A res.1 (WM q cy res.2 ++ rest)) (cc := cX6_guess) (maxL := 3) (ret := (some .int)) (by decide) (Nat.le_of_ble_eq_true rfl) ?_
  intro p e s m below meth c A hx hb hml hr hts hown hlocks hin hA hP hD hS hE hsz ls hl
  have hown : s.vm.findClass RX6 = some m.cls := hown
  obtain ⟨H, hH0⟩ : ∃ H, H = s.heap := ⟨_, rfl⟩
  obtain ⟨locs, hlocs0⟩ : ∃ locs : List Loc, locs = [] := ⟨_, rfl⟩
  have hP : va_P D vwCl (WM q cy u ++ rest) H := by rw [hH0]; exact hP
  have hS : va_S A s.heap H locs := by rw [hH0, hlocs0]; exact hS
  have hl : lv_has ls 3 [(0, .ref (q 0)), (1, .int a1), (2, .int a2)] := hl
  suffices hgoal : W p l e rmX6_guess s m ([.ref (q 0), .int a1, .int a2] : List Value).toArray below meth c H locs 0 0 (MQ below (kQi D A res.1 (WM q cy res.2 ++ rest)) ([.ref (q 0), .int a1, .int a2] : List Value).toArray s 0 0 A) (F0 m 0 ls []) by rw [hH0, hlocs0] at hgoal; exact hgoal
  clear hH0 hlocs0
  unfold mX6_guess at hf
  refine lv_iload_n hx hb dX6_guess_0 rfl (lv_at hl 1 rfl) ?_
  refine lv_i2l (v := (a1.toInt64)) hx hb dX6_guess_1 rfl ?_
  refine lv_lconst (v := 0) hx hb dX6_guess_2 (by decide) ?_
  refine lv_ldc2 (v := 2730) hx hb hown (hts _ wB649) dX6_guess_3 ?_
  obtain ⟨r6, h6r, hf⟩ := o_bs hf
  refine k_goi (va_runS (As := [.long (a1.toInt64), .long 0, .long 2730]) (rest := []) ⟨hx, hb, hml, hown, hts⟩ (zX6_in l D cy sa (WM q cy u ++ rest) H.size (a1.toInt64) 0 2730  r6  h6r) (va_cwS 3 hts (gB_S wB141 wB142 wB5 wB143) rfl rfl rfl (by decide +kernel) ⟨Nat.le_of_ble_eq_true rfl, Nat.le_of_ble_eq_true rfl⟩) ⟨kP.blind, k_pre hP hD hS hE hA⟩ rfl rfl hl.1 rfl (lv_room (Nat.le_of_ble_eq_true rfl)) dX6_guess_6 ⟨Nat.zero_le _, Nat.zero_le _⟩) hD hS hA (fun H locs hP hD hS => ?_)
  refine lv_if_eq (tgt := 24) hx hb dX6_guess_9 (by decide) (fun c9 => ?_) (fun c9 => ?_)
  · have hf := o_ip c9 hf
    refine lv_aload_n hx hb dX6_guess_24 rfl (lv_at hl 0 rfl) ?_
    refine lv_iconst (v := 0) hx hb dX6_guess_25 (by decide) ?_
    refine lv_bipush (v := (-10)) hx hb dX6_guess_26 (by decide) ?_
    obtain ⟨r28, h28r, hf⟩ := o_bs hf
    refine k_goi (va_runV (As := [.int 0, .int (-10)]) (rest := []) ⟨hx, hb, hml, hown, hts⟩ (zX6_refuses l D cy sa q rest H.size u 0 (-10) r28 h28r) (cwV 2 hts (gB_V wB148 wB149 wB150 wB5 wB151) rfl rfl rfl (by decide +kernel) ⟨Nat.le_of_ble_eq_true rfl, Nat.le_of_ble_eq_true rfl⟩) ⟨kP.blind, k_recv hE hP (ci := 6) (q0 := 0) rfl rfl, k_pre hP hD hS hE hA⟩ rfl rfl hl.1 rfl (lv_room (Nat.le_of_ble_eq_true rfl)) dX6_guess_28 ⟨Nat.zero_le _, Nat.zero_le _⟩) hD hS hA (fun H locs hP hD hS => ?_)
    obtain rfl := o_ret hf
    exact k_iret hx hb hr hP hD hS (Nat.zero_le _) (Nat.zero_le _) hlocks dX6_guess_31
  · have hf := o_in c9 hf
    refine lv_iload_n hx hb dX6_guess_12 rfl (lv_at hl 2 rfl) ?_
    refine lv_i2l (v := (a2.toInt64)) hx hb dX6_guess_13 rfl ?_
    refine lv_lconst (v := 0) hx hb dX6_guess_14 (by decide) ?_
    refine lv_ldc2 (v := 3) hx hb hown (hts _ wB376) dX6_guess_15 ?_
    obtain ⟨r18, h18r, hf⟩ := o_bs hf
    refine k_goi (va_runS (As := [.long (a2.toInt64), .long 0, .long 3]) (rest := []) ⟨hx, hb, hml, hown, hts⟩ (zX6_in l D cy sa (WM q cy u ++ rest) H.size (a2.toInt64) 0 3  r18  h18r) (va_cwS 3 hts (gB_S wB141 wB142 wB5 wB143) rfl rfl rfl (by decide +kernel) ⟨Nat.le_of_ble_eq_true rfl, Nat.le_of_ble_eq_true rfl⟩) ⟨kP.blind, k_pre hP hD hS hE hA⟩ rfl rfl hl.1 rfl (lv_room (Nat.le_of_ble_eq_true rfl)) dX6_guess_18 ⟨Nat.zero_le _, Nat.zero_le _⟩) hD hS hA (fun H locs hP hD hS => ?_)
    refine lv_if_ne (tgt := 32) hx hb dX6_guess_21 (by decide) (fun c21 => ?_) (fun c21 => ?_)
    · have hf := o_in c21 hf
      refine lv_aload_n hx hb dX6_guess_32 rfl (lv_at hl 0 rfl) ?_
      refine lv_iload_n hx hb dX6_guess_33 rfl (lv_at hl 1 rfl) ?_
      obtain ⟨r34, h34r, hf⟩ := o_bs hf
      refine k_gov (va_runV (As := [.int a1]) (rest := []) ⟨hx, hb, hml, hown, hts⟩ (zX6_opens l D cy sa q rest H.size u a1 r34 h34r) (cwV 1 hts (gB_V wB567 wB568 wB569 wB5 wB570) rfl rfl rfl (by decide +kernel) ⟨Nat.le_of_ble_eq_true rfl, Nat.le_of_ble_eq_true rfl⟩) ⟨kP.blind, k_recv hE hP (ci := 6) (q0 := 0) rfl rfl, k_pre hP hD hS hE hA⟩ rfl rfl hl.1 rfl (lv_room (Nat.le_of_ble_eq_true rfl)) dX6_guess_34 ⟨Nat.zero_le _, Nat.zero_le _⟩) hD hS hA (fun H locs hP hD hS => ?_)
      refine lv_aload_n hx hb dX6_guess_37 rfl (lv_at hl 0 rfl) ?_
      refine va_get (ci := 6) (v := .int (gI r34 6)) (C := RX6) (T := TX6) (N := 26) hx hb hts inlX6 hown hE.1 hP 0 rfl rfl 16 (by decide) (hts _ wB558) (fun _ h9 => h9) rfl dX6_guess_38 ?_
      refine lv_iload_n hx hb dX6_guess_41 rfl (lv_at hl 2 rfl) ?_
      refine lv_icmp_ne (tgt := 52) hx hb dX6_guess_42 (by decide) (fun c42 => ?_) (fun c42 => ?_)
      · have hf := o_in c42 hf
        refine lv_aload_n hx hb dX6_guess_52 rfl (lv_at hl 0 rfl) ?_
        refine va_get (ci := 6) (v := .int (gI r34 7)) (C := RX6) (T := TX6) (N := 26) hx hb hts inlX6 hown hE.1 hP 0 rfl rfl 17 (by decide) (hts _ wB560) (fun _ h9 => h9) rfl dX6_guess_53 ?_
        refine lv_iload_n hx hb dX6_guess_56 rfl (lv_at hl 2 rfl) ?_
        refine lv_icmp_ne (tgt := 67) hx hb dX6_guess_57 (by decide) (fun c57 => ?_) (fun c57 => ?_)
        · have hf := o_in c57 hf
          refine lv_iconst (v := (-1)) hx hb dX6_guess_67 (by decide) ?_
          obtain rfl := o_ret hf
          exact k_iret hx hb hr hP hD hS (Nat.zero_le _) (Nat.zero_le _) hlocks dX6_guess_68
        · have hf := o_ip c57 hf
          refine lv_aload_n hx hb dX6_guess_60 rfl (lv_at hl 0 rfl) ?_
          refine va_get (ci := 6) (v := .int (gI r34 9)) (C := RX6) (T := TX6) (N := 26) hx hb hts inlX6 hown hE.1 hP 0 rfl rfl 19 (by decide) (hts _ wB561) (fun _ h9 => h9) rfl dX6_guess_61 ?_
          refine lv_goto (tgt := 68) hx hb dX6_guess_64 (by decide) ?_
          obtain rfl := o_ret hf
          exact k_iret hx hb hr hP hD hS (Nat.zero_le _) (Nat.zero_le _) hlocks dX6_guess_68
      · have hf := o_ip c42 hf
        refine lv_aload_n hx hb dX6_guess_45 rfl (lv_at hl 0 rfl) ?_
        refine va_get (ci := 6) (v := .int (gI r34 8)) (C := RX6) (T := TX6) (N := 26) hx hb hts inlX6 hown hE.1 hP 0 rfl rfl 18 (by decide) (hts _ wB559) (fun _ h9 => h9) rfl dX6_guess_46 ?_
        refine lv_goto (tgt := 68) hx hb dX6_guess_49 (by decide) ?_
        obtain rfl := o_ret hf
        exact k_iret hx hb hr hP hD hS (Nat.zero_le _) (Nat.zero_le _) hlocks dX6_guess_68
    · have hf := o_ip c21 hf
      refine lv_aload_n hx hb dX6_guess_24 rfl (lv_at hl 0 rfl) ?_
      refine lv_iconst (v := 0) hx hb dX6_guess_25 (by decide) ?_
      refine lv_bipush (v := (-10)) hx hb dX6_guess_26 (by decide) ?_
      obtain ⟨r28, h28r, hf⟩ := o_bs hf
      refine k_goi (va_runV (As := [.int 0, .int (-10)]) (rest := []) ⟨hx, hb, hml, hown, hts⟩ (zX6_refuses l D cy sa q rest H.size u 0 (-10) r28 h28r) (cwV 2 hts (gB_V wB148 wB149 wB150 wB5 wB151) rfl rfl rfl (by decide +kernel) ⟨Nat.le_of_ble_eq_true rfl, Nat.le_of_ble_eq_true rfl⟩) ⟨kP.blind, k_recv hE hP (ci := 6) (q0 := 0) rfl rfl, k_pre hP hD hS hE hA⟩ rfl rfl hl.1 rfl (lv_room (Nat.le_of_ble_eq_true rfl)) dX6_guess_28 ⟨Nat.zero_le _, Nat.zero_le _⟩) hD hS hA (fun H locs hP hD hS => ?_)
      obtain rfl := o_ret hf
      exact k_iret hx hb hr hP hD hS (Nat.zero_le _) (Nat.zero_le _) hlocks dX6_guess_31
noncomputable def mX6_tells (u : KS) (a1 : Int64) (a3 : Int64) : Option (Int32 × KS) :=
  if 0 ≤ (lg_cmp a1 0) then
  ((mX6_sets u 0 a1).bind fun r14 =>
  (mX6_sets r14 1 a3).bind fun r20 =>
  (mX6_lowers r20).bind fun r24 =>
  if 0 ≤ (lg_cmp a1 0) then
  (some (1, (sI r24 0 0)))
  else
  (some (1, (sI r24 0 1))))
  else
  ((mX6_sets u 0 (-a1)).bind fun r14 =>
  (mX6_sets r14 1 a3).bind fun r20 =>
  (mX6_lowers r20).bind fun r24 =>
  if 0 ≤ (lg_cmp a1 0) then
  (some (1, (sI r24 0 0)))
  else
  (some (1, (sI r24 0 1))))
abbrev rmX6_tells : Room := { frames := 3, cells := 0, slots := 0, locals := 74 }
set_option maxRecDepth 100000 in
set_option maxHeartbeats 4000000 in
theorem zX6_tells (l : Launch) (D : va_G) (cy : Nat → ClassId) (sa : Nat → Nat) (q : Nat → Nat) (rest : va_W) (sz : Nat) (u : KS) (a1 : Int64) (a3 : Int64) (res : Int32 × KS) (hf : mX6_tells u a1 a3 = some res) : kMi l yX6_tells (wsK yX6_tells cX6_tells 5 (some .int)) rmX6_tells D cy sa (WM q cy u ++ rest) sz [.ref (q 0), .long a1, .long a3] res.1 (WM q cy res.2 ++ rest) 0 0 := by
  refine kM_of (Qc := fun A => kQi D A res.1 (WM q cy res.2 ++ rest)) (cc := cX6_tells) (maxL := 5) (ret := (some .int)) (by decide) (Nat.le_of_ble_eq_true rfl) ?_
  intro p e s m below meth c A hx hb hml hr hts hown hlocks hin hA hP hD hS hE hsz ls hl
  have hown : s.vm.findClass RX6 = some m.cls := hown
  obtain ⟨H, hH0⟩ : ∃ H, H = s.heap := ⟨_, rfl⟩
  obtain ⟨locs, hlocs0⟩ : ∃ locs : List Loc, locs = [] := ⟨_, rfl⟩
  have hP : va_P D vwCl (WM q cy u ++ rest) H := by rw [hH0]; exact hP
  have hS : va_S A s.heap H locs := by rw [hH0, hlocs0]; exact hS
  have hl : lv_has ls 5 [(0, .ref (q 0)), (1, .long a1), (3, .long a3)] := hl
  suffices hgoal : W p l e rmX6_tells s m ([.ref (q 0), .long a1, .long a3] : List Value).toArray below meth c H locs 0 0 (MQ below (kQi D A res.1 (WM q cy res.2 ++ rest)) ([.ref (q 0), .long a1, .long a3] : List Value).toArray s 0 0 A) (F0 m 0 ls []) by rw [hH0, hlocs0] at hgoal; exact hgoal
  clear hH0 hlocs0
  unfold mX6_tells at hf
  refine lv_aload_n hx hb dX6_tells_0 rfl (lv_at hl 0 rfl) ?_
  refine lv_iconst (v := 0) hx hb dX6_tells_1 (by decide) ?_
  refine lv_lload_n hx hb dX6_tells_2 rfl (lv_at hl 1 rfl) ?_
  refine lv_lconst (v := 0) hx hb dX6_tells_3 (by decide) ?_
  refine W.lcmp hx hb dX6_tells_4 ?_
  refine lv_if_ge (tgt := 13) hx hb dX6_tells_5 (by decide) (fun c5 => ?_) (fun c5 => ?_)
  · have hf := o_ip c5 hf
    refine lv_lload_n hx hb dX6_tells_13 rfl (lv_at hl 1 rfl) ?_
    obtain ⟨r14, h14r, hf⟩ := o_bs hf
    refine k_gov (va_runV (As := [.int 0, .long a1]) (rest := []) ⟨hx, hb, hml, hown, hts⟩ (zX6_sets l D cy sa q rest H.size u 0 a1 r14 h14r) (cwV 2 hts (gB_V wB98 wB99 wB100 wB5 wB101) rfl rfl rfl (by decide +kernel) ⟨Nat.le_of_ble_eq_true rfl, Nat.le_of_ble_eq_true rfl⟩) ⟨kP.blind, k_recv hE hP (ci := 6) (q0 := 0) rfl rfl, k_pre hP hD hS hE hA⟩ rfl rfl hl.1 rfl (lv_room (Nat.le_of_ble_eq_true rfl)) dX6_tells_14 ⟨Nat.zero_le _, Nat.zero_le _⟩) hD hS hA (fun H locs hP hD hS => ?_)
    refine lv_aload_n hx hb dX6_tells_17 rfl (lv_at hl 0 rfl) ?_
    refine lv_iconst (v := 1) hx hb dX6_tells_18 (by decide) ?_
    refine lv_lload_n hx hb dX6_tells_19 rfl (lv_at hl 2 rfl) ?_
    obtain ⟨r20, h20r, hf⟩ := o_bs hf
    refine k_gov (va_runV (As := [.int 1, .long a3]) (rest := []) ⟨hx, hb, hml, hown, hts⟩ (zX6_sets l D cy sa q rest H.size r14 1 a3 r20 h20r) (cwV 2 hts (gB_V wB98 wB99 wB100 wB5 wB101) rfl rfl rfl (by decide +kernel) ⟨Nat.le_of_ble_eq_true rfl, Nat.le_of_ble_eq_true rfl⟩) ⟨kP.blind, k_recv hE hP (ci := 6) (q0 := 0) rfl rfl, k_pre hP hD hS hE hA⟩ rfl rfl hl.1 rfl (lv_room (Nat.le_of_ble_eq_true rfl)) dX6_tells_20 ⟨Nat.zero_le _, Nat.zero_le _⟩) hD hS hA (fun H locs hP hD hS => ?_)
    refine lv_aload_n hx hb dX6_tells_23 rfl (lv_at hl 0 rfl) ?_
    obtain ⟨r24, h24r, hf⟩ := o_bs hf
    refine k_gov (va_runV (As := []) (rest := []) ⟨hx, hb, hml, hown, hts⟩ (zX6_lowers l D cy sa q rest H.size r20  r24 h24r) (cwV 0 hts (gB_V wB585 wB586 wB587 wB5 wB588) rfl rfl rfl (by decide +kernel) ⟨Nat.le_of_ble_eq_true rfl, Nat.le_of_ble_eq_true rfl⟩) ⟨kP.blind, k_recv hE hP (ci := 6) (q0 := 0) rfl rfl, k_pre hP hD hS hE hA⟩ rfl rfl hl.1 rfl (lv_room (Nat.le_of_ble_eq_true rfl)) dX6_tells_24 ⟨Nat.zero_le _, Nat.zero_le _⟩) hD hS hA (fun H locs hP hD hS => ?_)
    refine lv_aload_n hx hb dX6_tells_27 rfl (lv_at hl 0 rfl) ?_
    refine lv_lload_n hx hb dX6_tells_28 rfl (lv_at hl 1 rfl) ?_
    refine lv_lconst (v := 0) hx hb dX6_tells_29 (by decide) ?_
    refine W.lcmp hx hb dX6_tells_30 ?_
    refine lv_if_ge (tgt := 38) hx hb dX6_tells_31 (by decide) (fun c31 => ?_) (fun c31 => ?_)
    · have hf := o_ip c31 hf
      refine lv_iconst (v := 0) hx hb dX6_tells_38 (by decide) ?_
      refine va_put (ci := 6) (v := .int 0) (ty := .boolean) (C := RX6) (T := TX6) (N := 26) hx hb hts inlX6 tyX6 tyX6_ok nmX6 hown hE.1 hP hD hS 0 rfl rfl 4 (by decide) (hts _ wB584) (fun _ h9 => h9) rfl (by decide +kernel) rfl rfl (Nat.le_of_ble_eq_true rfl) dX6_tells_39 (fun H locs hP hD hS => ?_)
      have hP : va_P D vwCl (WM q cy (sI r24 0 0) ++ rest) H := hP
      have hD : va_D A (WM q cy (sI r24 0 0) ++ rest) := hD
      refine lv_iconst (v := 1) hx hb dX6_tells_42 (by decide) ?_
      obtain rfl := o_ret hf
      exact k_iret hx hb hr hP hD hS (Nat.zero_le _) (Nat.zero_le _) hlocks dX6_tells_43
    · have hf := o_in c31 hf
      refine lv_iconst (v := 1) hx hb dX6_tells_34 (by decide) ?_
      refine lv_goto (tgt := 39) hx hb dX6_tells_35 (by decide) ?_
      refine va_put (ci := 6) (v := .int 1) (ty := .boolean) (C := RX6) (T := TX6) (N := 26) hx hb hts inlX6 tyX6 tyX6_ok nmX6 hown hE.1 hP hD hS 0 rfl rfl 4 (by decide) (hts _ wB584) (fun _ h9 => h9) rfl (by decide +kernel) rfl rfl (Nat.le_of_ble_eq_true rfl) dX6_tells_39 (fun H locs hP hD hS => ?_)
      have hP : va_P D vwCl (WM q cy (sI r24 0 1) ++ rest) H := hP
      have hD : va_D A (WM q cy (sI r24 0 1) ++ rest) := hD
      refine lv_iconst (v := 1) hx hb dX6_tells_42 (by decide) ?_
      obtain rfl := o_ret hf
      exact k_iret hx hb hr hP hD hS (Nat.zero_le _) (Nat.zero_le _) hlocks dX6_tells_43
  · have hf := o_in c5 hf
    refine lv_lload_n hx hb dX6_tells_8 rfl (lv_at hl 1 rfl) ?_
    refine lv_lneg hx hb dX6_tells_9 ?_
    refine lv_goto (tgt := 14) hx hb dX6_tells_10 (by decide) ?_
    obtain ⟨r14, h14r, hf⟩ := o_bs hf
    refine k_gov (va_runV (As := [.int 0, .long (-a1)]) (rest := []) ⟨hx, hb, hml, hown, hts⟩ (zX6_sets l D cy sa q rest H.size u 0 (-a1) r14 h14r) (cwV 2 hts (gB_V wB98 wB99 wB100 wB5 wB101) rfl rfl rfl (by decide +kernel) ⟨Nat.le_of_ble_eq_true rfl, Nat.le_of_ble_eq_true rfl⟩) ⟨kP.blind, k_recv hE hP (ci := 6) (q0 := 0) rfl rfl, k_pre hP hD hS hE hA⟩ rfl rfl hl.1 rfl (lv_room (Nat.le_of_ble_eq_true rfl)) dX6_tells_14 ⟨Nat.zero_le _, Nat.zero_le _⟩) hD hS hA (fun H locs hP hD hS => ?_)
    refine lv_aload_n hx hb dX6_tells_17 rfl (lv_at hl 0 rfl) ?_
    refine lv_iconst (v := 1) hx hb dX6_tells_18 (by decide) ?_
    refine lv_lload_n hx hb dX6_tells_19 rfl (lv_at hl 2 rfl) ?_
    obtain ⟨r20, h20r, hf⟩ := o_bs hf
    refine k_gov (va_runV (As := [.int 1, .long a3]) (rest := []) ⟨hx, hb, hml, hown, hts⟩ (zX6_sets l D cy sa q rest H.size r14 1 a3 r20 h20r) (cwV 2 hts (gB_V wB98 wB99 wB100 wB5 wB101) rfl rfl rfl (by decide +kernel) ⟨Nat.le_of_ble_eq_true rfl, Nat.le_of_ble_eq_true rfl⟩) ⟨kP.blind, k_recv hE hP (ci := 6) (q0 := 0) rfl rfl, k_pre hP hD hS hE hA⟩ rfl rfl hl.1 rfl (lv_room (Nat.le_of_ble_eq_true rfl)) dX6_tells_20 ⟨Nat.zero_le _, Nat.zero_le _⟩) hD hS hA (fun H locs hP hD hS => ?_)
    refine lv_aload_n hx hb dX6_tells_23 rfl (lv_at hl 0 rfl) ?_
    obtain ⟨r24, h24r, hf⟩ := o_bs hf
    refine k_gov (va_runV (As := []) (rest := []) ⟨hx, hb, hml, hown, hts⟩ (zX6_lowers l D cy sa q rest H.size r20  r24 h24r) (cwV 0 hts (gB_V wB585 wB586 wB587 wB5 wB588) rfl rfl rfl (by decide +kernel) ⟨Nat.le_of_ble_eq_true rfl, Nat.le_of_ble_eq_true rfl⟩) ⟨kP.blind, k_recv hE hP (ci := 6) (q0 := 0) rfl rfl, k_pre hP hD hS hE hA⟩ rfl rfl hl.1 rfl (lv_room (Nat.le_of_ble_eq_true rfl)) dX6_tells_24 ⟨Nat.zero_le _, Nat.zero_le _⟩) hD hS hA (fun H locs hP hD hS => ?_)
    refine lv_aload_n hx hb dX6_tells_27 rfl (lv_at hl 0 rfl) ?_
    refine lv_lload_n hx hb dX6_tells_28 rfl (lv_at hl 1 rfl) ?_
    refine lv_lconst (v := 0) hx hb dX6_tells_29 (by decide) ?_
    refine W.lcmp hx hb dX6_tells_30 ?_
    refine lv_if_ge (tgt := 38) hx hb dX6_tells_31 (by decide) (fun c31 => ?_) (fun c31 => ?_)
    · have hf := o_ip c31 hf
      refine lv_iconst (v := 0) hx hb dX6_tells_38 (by decide) ?_
      refine va_put (ci := 6) (v := .int 0) (ty := .boolean) (C := RX6) (T := TX6) (N := 26) hx hb hts inlX6 tyX6 tyX6_ok nmX6 hown hE.1 hP hD hS 0 rfl rfl 4 (by decide) (hts _ wB584) (fun _ h9 => h9) rfl (by decide +kernel) rfl rfl (Nat.le_of_ble_eq_true rfl) dX6_tells_39 (fun H locs hP hD hS => ?_)
      have hP : va_P D vwCl (WM q cy (sI r24 0 0) ++ rest) H := hP
      have hD : va_D A (WM q cy (sI r24 0 0) ++ rest) := hD
      refine lv_iconst (v := 1) hx hb dX6_tells_42 (by decide) ?_
      obtain rfl := o_ret hf
      exact k_iret hx hb hr hP hD hS (Nat.zero_le _) (Nat.zero_le _) hlocks dX6_tells_43
    · have hf := o_in c31 hf
      refine lv_iconst (v := 1) hx hb dX6_tells_34 (by decide) ?_
      refine lv_goto (tgt := 39) hx hb dX6_tells_35 (by decide) ?_
      refine va_put (ci := 6) (v := .int 1) (ty := .boolean) (C := RX6) (T := TX6) (N := 26) hx hb hts inlX6 tyX6 tyX6_ok nmX6 hown hE.1 hP hD hS 0 rfl rfl 4 (by decide) (hts _ wB584) (fun _ h9 => h9) rfl (by decide +kernel) rfl rfl (Nat.le_of_ble_eq_true rfl) dX6_tells_39 (fun H locs hP hD hS => ?_)
      have hP : va_P D vwCl (WM q cy (sI r24 0 1) ++ rest) H := hP
      have hD : va_D A (WM q cy (sI r24 0 1) ++ rest) := hD
      refine lv_iconst (v := 1) hx hb dX6_tells_42 (by decide) ?_
      obtain rfl := o_ret hf
      exact k_iret hx hb hr hP hD hS (Nat.zero_le _) (Nat.zero_le _) hlocks dX6_tells_43
noncomputable def mX6_harvest (u : KS) (a1 : Int32) (a2 : Int32) (a3 : Int32) (a4 : Int32) : Option (Int32 × KS) :=
  (mX6_isDrive a1 a3 a4).bind fun r4 =>
  if r4 = 0 then
  ((mX6_bad u).bind fun r23 =>
  some (r23.1, r23.2))
  else
  ((mX6_in (a2.toInt64) 0 10).bind fun r16 =>
  if r16 = 0 then
  ((mX6_bad u).bind fun r23 =>
  some (r23.1, r23.2))
  else
  ((mX6_goesOn u a1 a2 a3 a4).bind fun r33 =>
  gd (inb ((4 * a2) + a1) 44) ((mX6_tells r33.2 ((gA r33.2 2) (((4 * a2) + a1).toNatClampNeg)) r33.1).bind fun r51 =>
  some (r51.1, r51.2))))
abbrev rmX6_harvest : Room := { frames := 4, cells := 0, slots := 0, locals := 98 }
set_option maxRecDepth 100000 in
set_option maxHeartbeats 4000000 in
theorem zX6_harvest (l : Launch) (D : va_G) (cy : Nat → ClassId) (sa : Nat → Nat) (q : Nat → Nat) (rest : va_W) (sz : Nat) (u : KS) (a1 : Int32) (a2 : Int32) (a3 : Int32) (a4 : Int32) (res : Int32 × KS) (hf : mX6_harvest u a1 a2 a3 a4 = some res) : kMi l yX6_harvest (wsK yX6_harvest cX6_harvest 7 (some .int)) rmX6_harvest D cy sa (WM q cy u ++ rest) sz [.ref (q 0), .int a1, .int a2, .int a3, .int a4] res.1 (WM q cy res.2 ++ rest) 0 0 := by
  refine kM_of (Qc := fun A => kQi D A res.1 (WM q cy res.2 ++ rest)) (cc := cX6_harvest) (maxL := 7) (ret := (some .int)) (by decide) (Nat.le_of_ble_eq_true rfl) ?_
  intro p e s m below meth c A hx hb hml hr hts hown hlocks hin hA hP hD hS hE hsz ls hl
  have hown : s.vm.findClass RX6 = some m.cls := hown
  obtain ⟨H, hH0⟩ : ∃ H, H = s.heap := ⟨_, rfl⟩
  obtain ⟨locs, hlocs0⟩ : ∃ locs : List Loc, locs = [] := ⟨_, rfl⟩
  have hP : va_P D vwCl (WM q cy u ++ rest) H := by rw [hH0]; exact hP
  have hS : va_S A s.heap H locs := by rw [hH0, hlocs0]; exact hS
  have hl : lv_has ls 7 [(0, .ref (q 0)), (1, .int a1), (2, .int a2), (3, .int a3), (4, .int a4)] := hl
  suffices hgoal : W p l e rmX6_harvest s m ([.ref (q 0), .int a1, .int a2, .int a3, .int a4] : List Value).toArray below meth c H locs 0 0 (MQ below (kQi D A res.1 (WM q cy res.2 ++ rest)) ([.ref (q 0), .int a1, .int a2, .int a3, .int a4] : List Value).toArray s 0 0 A) (F0 m 0 ls []) by rw [hH0, hlocs0] at hgoal; exact hgoal
  clear hH0 hlocs0
  unfold mX6_harvest at hf
  refine lv_iload_n hx hb dX6_harvest_0 rfl (lv_at hl 1 rfl) ?_
  refine lv_iload_n hx hb dX6_harvest_1 rfl (lv_at hl 3 rfl) ?_
  refine lv_iload hx hb dX6_harvest_2 (lv_at hl 4 rfl) ?_
  obtain ⟨r4, h4r, hf⟩ := o_bs hf
  refine k_goi (va_runS (As := [.int a1, .int a3, .int a4]) (rest := []) ⟨hx, hb, hml, hown, hts⟩ (zX6_isDrive l D cy sa (WM q cy u ++ rest) H.size a1 a3 a4  r4  h4r) (va_cwS 3 hts (gB_S wB767 wB768 wB5 wB769) rfl rfl rfl (by decide +kernel) ⟨Nat.le_of_ble_eq_true rfl, Nat.le_of_ble_eq_true rfl⟩) ⟨kP.blind, k_pre hP hD hS hE hA⟩ rfl rfl hl.1 rfl (lv_room (Nat.le_of_ble_eq_true rfl)) dX6_harvest_4 ⟨Nat.zero_le _, Nat.zero_le _⟩) hD hS hA (fun H locs hP hD hS => ?_)
  refine lv_if_eq (tgt := 22) hx hb dX6_harvest_7 (by decide) (fun c7 => ?_) (fun c7 => ?_)
  · have hf := o_ip c7 hf
    refine lv_aload_n hx hb dX6_harvest_22 rfl (lv_at hl 0 rfl) ?_
    obtain ⟨r23, h23r, hf⟩ := o_bs hf
    refine k_goi (va_runV (As := []) (rest := []) ⟨hx, hb, hml, hown, hts⟩ (zX6_bad l D cy sa q rest H.size u  r23 h23r) (cwV 0 hts (gB_V wB144 wB145 wB146 wB5 wB147) rfl rfl rfl (by decide +kernel) ⟨Nat.le_of_ble_eq_true rfl, Nat.le_of_ble_eq_true rfl⟩) ⟨kP.blind, k_recv hE hP (ci := 6) (q0 := 0) rfl rfl, k_pre hP hD hS hE hA⟩ rfl rfl hl.1 rfl (lv_room (Nat.le_of_ble_eq_true rfl)) dX6_harvest_23 ⟨Nat.zero_le _, Nat.zero_le _⟩) hD hS hA (fun H locs hP hD hS => ?_)
    obtain rfl := o_ret hf
    exact k_iret hx hb hr hP hD hS (Nat.zero_le _) (Nat.zero_le _) hlocks dX6_harvest_26
  · have hf := o_in c7 hf
    refine lv_iload_n hx hb dX6_harvest_10 rfl (lv_at hl 2 rfl) ?_
    refine lv_i2l (v := (a2.toInt64)) hx hb dX6_harvest_11 rfl ?_
    refine lv_lconst (v := 0) hx hb dX6_harvest_12 (by decide) ?_
    refine lv_ldc2 (v := 10) hx hb hown (hts _ wB766) dX6_harvest_13 ?_
    obtain ⟨r16, h16r, hf⟩ := o_bs hf
    refine k_goi (va_runS (As := [.long (a2.toInt64), .long 0, .long 10]) (rest := []) ⟨hx, hb, hml, hown, hts⟩ (zX6_in l D cy sa (WM q cy u ++ rest) H.size (a2.toInt64) 0 10  r16  h16r) (va_cwS 3 hts (gB_S wB141 wB142 wB5 wB143) rfl rfl rfl (by decide +kernel) ⟨Nat.le_of_ble_eq_true rfl, Nat.le_of_ble_eq_true rfl⟩) ⟨kP.blind, k_pre hP hD hS hE hA⟩ rfl rfl hl.1 rfl (lv_room (Nat.le_of_ble_eq_true rfl)) dX6_harvest_16 ⟨Nat.zero_le _, Nat.zero_le _⟩) hD hS hA (fun H locs hP hD hS => ?_)
    refine lv_if_ne (tgt := 27) hx hb dX6_harvest_19 (by decide) (fun c19 => ?_) (fun c19 => ?_)
    · have hf := o_in c19 hf
      refine lv_aload_n hx hb dX6_harvest_27 rfl (lv_at hl 0 rfl) ?_
      refine lv_iload_n hx hb dX6_harvest_28 rfl (lv_at hl 1 rfl) ?_
      refine lv_iload_n hx hb dX6_harvest_29 rfl (lv_at hl 2 rfl) ?_
      refine lv_iload_n hx hb dX6_harvest_30 rfl (lv_at hl 3 rfl) ?_
      refine lv_iload hx hb dX6_harvest_31 (lv_at hl 4 rfl) ?_
      obtain ⟨r33, h33r, hf⟩ := o_bs hf
      refine k_gol (va_runV (As := [.int a1, .int a2, .int a3, .int a4]) (rest := []) ⟨hx, hb, hml, hown, hts⟩ (zX6_goesOn l D cy sa q rest H.size u a1 a2 a3 a4 r33 h33r) (cwV 4 hts (gB_V wB771 wB772 wB773 wB5 wB774) rfl rfl rfl (by decide +kernel) ⟨Nat.le_of_ble_eq_true rfl, Nat.le_of_ble_eq_true rfl⟩) ⟨kP.blind, k_recv hE hP (ci := 6) (q0 := 0) rfl rfl, k_pre hP hD hS hE hA⟩ rfl rfl hl.1 rfl (lv_room (Nat.le_of_ble_eq_true rfl)) dX6_harvest_33 ⟨Nat.zero_le _, Nat.zero_le _⟩) hD hS hA (fun H locs hP hD hS => ?_)
      refine lv_lstore (lv' := [(5, .long r33.1), (0, .ref (q 0)), (1, .int a1), (2, .int a2), (3, .int a3), (4, .int a4)]) hx hb dX6_harvest_36 hl (by decide) rfl (fun ls hl => ?_)
      refine lv_aload_n hx hb dX6_harvest_38 rfl (lv_at hl 1 rfl) ?_
      refine lv_aload_n hx hb dX6_harvest_39 rfl (lv_at hl 1 rfl) ?_
      refine va_get (ci := 6) (v := .ref (q 14)) (C := RX6) (T := TX6) (N := 26) hx hb hts inlX6 hown hE.1 hP 0 rfl rfl 24 (by decide) (hts _ wB97) (fun _ h9 => h9) rfl dX6_harvest_40 ?_
      refine lv_iconst (v := 4) hx hb dX6_harvest_43 (by decide) ?_
      refine lv_iload_n hx hb dX6_harvest_44 rfl (lv_at hl 3 rfl) ?_
      refine lv_imul hx hb dX6_harvest_45 ?_
      refine lv_iload_n hx hb dX6_harvest_46 rfl (lv_at hl 2 rfl) ?_
      refine lv_iadd hx hb dX6_harvest_47 ?_
      obtain ⟨hg48, hf⟩ := gd_s hf
      refine va_lald (f := (gA r33.2 2)) hx hb hE.1 hP 14 1 rfl rfl hg48 dX6_harvest_48 ?_
      refine lv_lload hx hb dX6_harvest_49 (lv_at hl 0 rfl) ?_
      obtain ⟨r51, h51r, hf⟩ := o_bs hf
      refine k_goi (va_runV (As := [.long ((gA r33.2 2) (((4 * a2) + a1).toNatClampNeg)), .long r33.1]) (rest := []) ⟨hx, hb, hml, hown, hts⟩ (zX6_tells l D cy sa q rest H.size r33.2 ((gA r33.2 2) (((4 * a2) + a1).toNatClampNeg)) r33.1 r51 h51r) (cwV 2 hts (gB_V wB580 wB581 wB582 wB5 wB583) rfl rfl rfl (by decide +kernel) ⟨Nat.le_of_ble_eq_true rfl, Nat.le_of_ble_eq_true rfl⟩) ⟨kP.blind, k_recv hE hP (ci := 6) (q0 := 0) rfl rfl, k_pre hP hD hS hE hA⟩ rfl rfl hl.1 rfl (lv_room (Nat.le_of_ble_eq_true rfl)) dX6_harvest_51 ⟨Nat.zero_le _, Nat.zero_le _⟩) hD hS hA (fun H locs hP hD hS => ?_)
      obtain rfl := o_ret hf
      exact k_iret hx hb hr hP hD hS (Nat.zero_le _) (Nat.zero_le _) hlocks dX6_harvest_54
    · have hf := o_ip c19 hf
      refine lv_aload_n hx hb dX6_harvest_22 rfl (lv_at hl 0 rfl) ?_
      obtain ⟨r23, h23r, hf⟩ := o_bs hf
      refine k_goi (va_runV (As := []) (rest := []) ⟨hx, hb, hml, hown, hts⟩ (zX6_bad l D cy sa q rest H.size u  r23 h23r) (cwV 0 hts (gB_V wB144 wB145 wB146 wB5 wB147) rfl rfl rfl (by decide +kernel) ⟨Nat.le_of_ble_eq_true rfl, Nat.le_of_ble_eq_true rfl⟩) ⟨kP.blind, k_recv hE hP (ci := 6) (q0 := 0) rfl rfl, k_pre hP hD hS hE hA⟩ rfl rfl hl.1 rfl (lv_room (Nat.le_of_ble_eq_true rfl)) dX6_harvest_23 ⟨Nat.zero_le _, Nat.zero_le _⟩) hD hS hA (fun H locs hP hD hS => ?_)
      obtain rfl := o_ret hf
      exact k_iret hx hb hr hP hD hS (Nat.zero_le _) (Nat.zero_le _) hlocks dX6_harvest_26
noncomputable def mX6_hidden_s29 (u : KS) (c1 : Int32) (c2 : Int32) (s29 : Int32 × Int32) : Option ((Int32) ⊕ (Int32 × Int32)) :=
  if (4 * (gI u 5)) ≤ s29.2 then
  (some (.inl s29.1))
  else
  (gd (inb ((480 * ((3 * c2) + 2)) + s29.2) 10080) (some (.inr ((s29.1 + ((gR u 9) (((480 * ((3 * c2) + 2)) + s29.2).toNatClampNeg))), (s29.2 + 1)))))
noncomputable def mX6_hidden_s18 (u : KS) (s18 : Int32 × Int32) : Option ((Int32) ⊕ (Int32 × Int32)) :=
  if 7 ≤ s18.2 then
  (some (.inl s18.1))
  else
  ((lpF (mX6_hidden_s29 u s18.1 s18.2) (0, 0)).bind fun e29 =>
  if e29 = 0 then
  (some (.inr ((s18.1 ||| (((1 : Int32) <<< (s18.2 &&& 31)) : Int32)), (s18.2 + 1))))
  else
  (some (.inr ((s18.1 ||| 0), (s18.2 + 1)))))
noncomputable def mX6_hidden (u : KS) : Option (Int32 × KS) :=
  (mX6_passes u 100).bind fun r3 =>
  if r3.1 = 0 then
  ((mX6_no r3.2).bind fun r10 =>
  some (r10.1, r10.2))
  else
  ((lpF (mX6_hidden_s18 r3.2) (0, 0)).bind fun e18 =>
  some (e18, r3.2))
abbrev rmX6_hidden : Room := { frames := 5, cells := 0, slots := 0, locals := 117 }
set_option maxRecDepth 100000 in
set_option maxHeartbeats 4000000 in
theorem zX6_hidden (l : Launch) (D : va_G) (cy : Nat → ClassId) (sa : Nat → Nat) (q : Nat → Nat) (rest : va_W) (sz : Nat) (u : KS) (res : Int32 × KS) (hf : mX6_hidden u = some res) : kMi l yX6_hidden (wsK yX6_hidden cX6_hidden 5 (some .int)) rmX6_hidden D cy sa (WM q cy u ++ rest) sz [.ref (q 0)] res.1 (WM q cy res.2 ++ rest) 0 0 := by
  refine kM_of (Qc := fun A => kQi D A res.1 (WM q cy res.2 ++ rest)) (cc := cX6_hidden) (maxL := 5) (ret := (some .int)) (by decide) (Nat.le_of_ble_eq_true rfl) ?_
  intro p e s m below meth c A hx hb hml hr hts hown hlocks hin hA hP hD hS hE hsz ls hl
  have hown : s.vm.findClass RX6 = some m.cls := hown
  obtain ⟨H, hH0⟩ : ∃ H, H = s.heap := ⟨_, rfl⟩
  obtain ⟨locs, hlocs0⟩ : ∃ locs : List Loc, locs = [] := ⟨_, rfl⟩
  have hP : va_P D vwCl (WM q cy u ++ rest) H := by rw [hH0]; exact hP
  have hS : va_S A s.heap H locs := by rw [hH0, hlocs0]; exact hS
  have hl : lv_has ls 5 [(0, .ref (q 0))] := hl
  suffices hgoal : W p l e rmX6_hidden s m ([.ref (q 0)] : List Value).toArray below meth c H locs 0 0 (MQ below (kQi D A res.1 (WM q cy res.2 ++ rest)) ([.ref (q 0)] : List Value).toArray s 0 0 A) (F0 m 0 ls []) by rw [hH0, hlocs0] at hgoal; exact hgoal
  clear hH0 hlocs0
  unfold mX6_hidden at hf
  refine lv_aload_n hx hb dX6_hidden_0 rfl (lv_at hl 0 rfl) ?_
  refine lv_bipush (v := 100) hx hb dX6_hidden_1 (by decide) ?_
  obtain ⟨r3, h3r, hf⟩ := o_bs hf
  refine k_goi (va_runV (As := [.int 100]) (rest := []) ⟨hx, hb, hml, hown, hts⟩ (zX6_passes l D cy sa q rest H.size u 100 r3 h3r) (cwV 1 hts (gB_V wB386 wB387 wB388 wB5 wB389) rfl rfl rfl (by decide +kernel) ⟨Nat.le_of_ble_eq_true rfl, Nat.le_of_ble_eq_true rfl⟩) ⟨kP.blind, k_recv hE hP (ci := 6) (q0 := 0) rfl rfl, k_pre hP hD hS hE hA⟩ rfl rfl hl.1 rfl (lv_room (Nat.le_of_ble_eq_true rfl)) dX6_hidden_3 ⟨Nat.zero_le _, Nat.zero_le _⟩) hD hS hA (fun H locs hP hD hS => ?_)
  refine lv_if_ne (tgt := 14) hx hb dX6_hidden_6 (by decide) (fun c6 => ?_) (fun c6 => ?_)
  · have hf := o_in c6 hf
    refine lv_iconst (v := 0) hx hb dX6_hidden_14 (by decide) ?_
    refine lv_istore_n (lv' := [(1, .int 0), (0, .ref (q 0))]) hx hb dX6_hidden_15 rfl hl (by decide) rfl (fun ls hl => ?_)
    refine lv_iconst (v := 0) hx hb dX6_hidden_16 (by decide) ?_
    refine lv_istore_n (lv' := [(2, .int 0), (1, .int 0), (0, .ref (q 0))]) hx hb dX6_hidden_17 rfl hl (by decide) rfl (fun ls hl => ?_)
    have L18 : ∀ (n18v : Nat) (s18 : Int32 × Int32) (e18 : Int32), lpO (mX6_hidden_s18 r3.2) n18v s18 = some e18 → ∀ (H : Heap) (locs : List Loc) (ls : Array Slot), va_P D vwCl (WM q cy r3.2 ++ rest) H → va_D A (WM q cy r3.2 ++ rest) → va_S A s.heap H locs → lv_has ls 5 [(0, .ref (q 0)), (1, .int s18.1), (2, .int s18.2)] → (∀ (H : Heap) (locs : List Loc) (ls : Array Slot), va_P D vwCl (WM q cy r3.2 ++ rest) H → va_D A (WM q cy r3.2 ++ rest) → va_S A s.heap H locs → lv_has ls 5 [(1, .int e18)] → W p l e rmX6_hidden s m ([.ref (q 0)] : List Value).toArray below meth c H locs 0 0 (MQ below (kQi D A res.1 (WM q cy res.2 ++ rest)) ([.ref (q 0)] : List Value).toArray s 0 0 A) (F0 m 86 ls [])) → W p l e rmX6_hidden s m ([.ref (q 0)] : List Value).toArray below meth c H locs 0 0 (MQ below (kQi D A res.1 (WM q cy res.2 ++ rest)) ([.ref (q 0)] : List Value).toArray s 0 0 A) (F0 m 18 ls []) := by
      intro n18v
      induction n18v with
      | zero => intro s18 e18 h; exact (lpO_z h).elim
      | succ n18v ih18 =>
        intro s18 e18 h18z H locs ls hP hD hS hl K18_0
        obtain ⟨x18, hf, h18z⟩ := lpO_s h18z
        unfold mX6_hidden_s18 at hf
        refine lv_iload_n hx hb dX6_hidden_18 rfl (lv_at hl 2 rfl) ?_
        refine lv_bipush (v := 7) hx hb dX6_hidden_19 (by decide) ?_
        refine lv_icmp_ge (tgt := 86) hx hb dX6_hidden_21 (by decide) (fun c21 => ?_) (fun c21 => ?_)
        · have hf := o_ip c21 hf
          obtain rfl := o_ret hf
          obtain rfl := lpK_l h18z
          exact K18_0 _ _ _ hP hD hS (lv_sub hl [1] rfl)
        · have hf := o_in c21 hf
          refine lv_iconst (v := 0) hx hb dX6_hidden_24 (by decide) ?_
          refine lv_istore_n (lv' := [(3, .int 0), (0, .ref (q 0)), (1, .int s18.1), (2, .int s18.2)]) hx hb dX6_hidden_25 rfl hl (by decide) rfl (fun ls hl => ?_)
          refine lv_iconst (v := 0) hx hb dX6_hidden_26 (by decide) ?_
          refine lv_istore (lv' := [(4, .int 0), (3, .int 0), (0, .ref (q 0)), (1, .int s18.1), (2, .int s18.2)]) hx hb dX6_hidden_27 hl (by decide) rfl (fun ls hl => ?_)
          have L29 : ∀ (n29v : Nat) (s29 : Int32 × Int32) (e29 : Int32), lpO (mX6_hidden_s29 r3.2 s18.1 s18.2) n29v s29 = some e29 → ∀ (H : Heap) (locs : List Loc) (ls : Array Slot), va_P D vwCl (WM q cy r3.2 ++ rest) H → va_D A (WM q cy r3.2 ++ rest) → va_S A s.heap H locs → lv_has ls 5 [(0, .ref (q 0)), (1, .int s18.1), (2, .int s18.2), (3, .int s29.1), (4, .int s29.2)] → (∀ (H : Heap) (locs : List Loc) (ls : Array Slot), va_P D vwCl (WM q cy r3.2 ++ rest) H → va_D A (WM q cy r3.2 ++ rest) → va_S A s.heap H locs → lv_has ls 5 [(0, .ref (q 0)), (1, .int s18.1), (2, .int s18.2), (3, .int e29)] → W p l e rmX6_hidden s m ([.ref (q 0)] : List Value).toArray below meth c H locs 0 0 (MQ below (kQi D A res.1 (WM q cy res.2 ++ rest)) ([.ref (q 0)] : List Value).toArray s 0 0 A) (F0 m 66 ls [])) → W p l e rmX6_hidden s m ([.ref (q 0)] : List Value).toArray below meth c H locs 0 0 (MQ below (kQi D A res.1 (WM q cy res.2 ++ rest)) ([.ref (q 0)] : List Value).toArray s 0 0 A) (F0 m 29 ls []) := by
            intro n29v
            induction n29v with
            | zero => intro s29 e29 h; exact (lpO_z h).elim
            | succ n29v ih29 =>
              intro s29 e29 h29z H locs ls hP hD hS hl K29_0
              obtain ⟨x29, hf, h29z⟩ := lpO_s h29z
              unfold mX6_hidden_s29 at hf
              refine lv_iload hx hb dX6_hidden_29 (lv_at hl 4 rfl) ?_
              refine lv_iconst (v := 4) hx hb dX6_hidden_31 (by decide) ?_
              refine lv_aload_n hx hb dX6_hidden_32 rfl (lv_at hl 0 rfl) ?_
              refine va_get (ci := 6) (v := .int (gI r3.2 5)) (C := RX6) (T := TX6) (N := 26) hx hb hts inlX6 hown hE.1 hP 0 rfl rfl 14 (by decide) (hts _ wB289) (fun _ h9 => h9) rfl dX6_hidden_33 ?_
              refine lv_imul hx hb dX6_hidden_36 ?_
              refine lv_icmp_ge (tgt := 66) hx hb dX6_hidden_37 (by decide) (fun c37 => ?_) (fun c37 => ?_)
              · have hf := o_ip c37 hf
                obtain rfl := o_ret hf
                obtain rfl := lpK_l h29z
                exact K29_0 _ _ _ hP hD hS (lv_sub hl [0, 1, 2, 3] rfl)
              · have hf := o_in c37 hf
                refine lv_iload_n hx hb dX6_hidden_40 rfl (lv_at hl 3 rfl) ?_
                refine lv_aload_n hx hb dX6_hidden_41 rfl (lv_at hl 0 rfl) ?_
                refine va_get (ci := 6) (v := .ref (q 10)) (C := RX6) (T := TX6) (N := 26) hx hb hts inlX6 hown hE.1 hP 0 rfl rfl 15 (by decide) (hts _ wB93) (fun _ h9 => h9) rfl dX6_hidden_42 ?_
                refine lv_sipush (v := 480) hx hb dX6_hidden_45 (by decide) ?_
                refine lv_iconst (v := 3) hx hb dX6_hidden_48 (by decide) ?_
                refine lv_iload_n hx hb dX6_hidden_49 rfl (lv_at hl 2 rfl) ?_
                refine lv_imul hx hb dX6_hidden_50 ?_
                refine lv_iconst (v := 2) hx hb dX6_hidden_51 (by decide) ?_
                refine lv_iadd hx hb dX6_hidden_52 ?_
                refine lv_imul hx hb dX6_hidden_53 ?_
                refine lv_iload hx hb dX6_hidden_54 (lv_at hl 4 rfl) ?_
                refine lv_iadd hx hb dX6_hidden_56 ?_
                obtain ⟨hg57, hf⟩ := gd_s hf
                refine va_iald (f := (gR r3.2 9)) hx hb hE.1 hP 10 0 rfl rfl hg57 dX6_hidden_57 ?_
                refine lv_iadd hx hb dX6_hidden_58 ?_
                refine lv_istore_n (lv' := [(3, .int (s29.1 + ((gR r3.2 9) (((480 * ((3 * s18.2) + 2)) + s29.2).toNatClampNeg)))), (0, .ref (q 0)), (1, .int s18.1), (2, .int s18.2), (4, .int s29.2)]) hx hb dX6_hidden_59 rfl hl (by decide) rfl (fun ls hl => ?_)
                refine lv_iinc (v := (s29.2 + 1)) (lv' := [(4, .int (s29.2 + 1)), (3, .int (s29.1 + ((gR r3.2 9) (((480 * ((3 * s18.2) + 2)) + s29.2).toNatClampNeg)))), (0, .ref (q 0)), (1, .int s18.1), (2, .int s18.2)]) hx hb dX6_hidden_60 hl (k := 4) rfl (by rfl) (by decide) rfl (fun ls hl => ?_)
                refine lv_goto (tgt := 29) hx hb dX6_hidden_63 (by decide) ?_
                obtain rfl := o_ret hf
                exact ih29 _ _ (lpK_r h29z) _ _ _ hP hD hS (lv_sub hl [2, 3, 4, 1, 0] rfl) K29_0
          obtain ⟨e29, h29q, hf⟩ := o_bs hf
          obtain ⟨n29v, h29q⟩ := lpF_ex h29q
          refine L29 n29v _ e29 h29q _ _ _ hP hD hS (lv_sub hl [2, 3, 4, 1, 0] rfl) ?_
          intro H locs ls hP hD hS hl
          refine lv_iload_n hx hb dX6_hidden_66 rfl (lv_at hl 1 rfl) ?_
          refine lv_iload_n hx hb dX6_hidden_67 rfl (lv_at hl 3 rfl) ?_
          refine lv_if_ne (tgt := 77) hx hb dX6_hidden_68 (by decide) (fun c68 => ?_) (fun c68 => ?_)
          · have hf := o_in c68 hf
            refine lv_iconst (v := 0) hx hb dX6_hidden_77 (by decide) ?_
            refine lv_ior hx hb dX6_hidden_78 ?_
            refine lv_istore_n (lv' := [(1, .int (s18.1 ||| 0)), (0, .ref (q 0)), (2, .int s18.2), (3, .int e29)]) hx hb dX6_hidden_79 rfl hl (by decide) rfl (fun ls hl => ?_)
            refine lv_iinc (v := (s18.2 + 1)) (lv' := [(2, .int (s18.2 + 1)), (1, .int (s18.1 ||| 0)), (0, .ref (q 0)), (3, .int e29)]) hx hb dX6_hidden_80 hl (k := 2) rfl (by rfl) (by decide) rfl (fun ls hl => ?_)
            refine lv_goto (tgt := 18) hx hb dX6_hidden_83 (by decide) ?_
            obtain rfl := o_ret hf
            exact ih18 _ _ (lpK_r h18z) _ _ _ hP hD hS (lv_sub hl [2, 1, 0] rfl) K18_0
          · have hf := o_ip c68 hf
            refine lv_iconst (v := 1) hx hb dX6_hidden_71 (by decide) ?_
            refine lv_iload_n hx hb dX6_hidden_72 rfl (lv_at hl 2 rfl) ?_
            refine lv_ishl hx hb dX6_hidden_73 ?_
            refine lv_goto (tgt := 78) hx hb dX6_hidden_74 (by decide) ?_
            refine lv_ior hx hb dX6_hidden_78 ?_
            refine lv_istore_n (lv' := [(1, .int (s18.1 ||| (((1 : Int32) <<< (s18.2 &&& 31)) : Int32))), (0, .ref (q 0)), (2, .int s18.2), (3, .int e29)]) hx hb dX6_hidden_79 rfl hl (by decide) rfl (fun ls hl => ?_)
            refine lv_iinc (v := (s18.2 + 1)) (lv' := [(2, .int (s18.2 + 1)), (1, .int (s18.1 ||| (((1 : Int32) <<< (s18.2 &&& 31)) : Int32))), (0, .ref (q 0)), (3, .int e29)]) hx hb dX6_hidden_80 hl (k := 2) rfl (by rfl) (by decide) rfl (fun ls hl => ?_)
            refine lv_goto (tgt := 18) hx hb dX6_hidden_83 (by decide) ?_
            obtain rfl := o_ret hf
            exact ih18 _ _ (lpK_r h18z) _ _ _ hP hD hS (lv_sub hl [2, 1, 0] rfl) K18_0
    obtain ⟨e18, h18q, hf⟩ := o_bs hf
    obtain ⟨n18v, h18q⟩ := lpF_ex h18q
    refine L18 n18v _ e18 h18q _ _ _ hP hD hS (lv_sub hl [2, 1, 0] rfl) ?_
    intro H locs ls hP hD hS hl
    refine lv_iload_n hx hb dX6_hidden_86 rfl (lv_at hl 0 rfl) ?_
    obtain rfl := o_ret hf
    exact k_iret hx hb hr hP hD hS (Nat.zero_le _) (Nat.zero_le _) hlocks dX6_hidden_87
  · have hf := o_ip c6 hf
    refine lv_aload_n hx hb dX6_hidden_9 rfl (lv_at hl 0 rfl) ?_
    obtain ⟨r10, h10r, hf⟩ := o_bs hf
    refine k_goi (va_runV (As := []) (rest := []) ⟨hx, hb, hml, hown, hts⟩ (zX6_no l D cy sa q rest H.size r3.2  r10 h10r) (cwV 0 hts (gB_V wB328 wB329 wB330 wB5 wB331) rfl rfl rfl (by decide +kernel) ⟨Nat.le_of_ble_eq_true rfl, Nat.le_of_ble_eq_true rfl⟩) ⟨kP.blind, k_recv hE hP (ci := 6) (q0 := 0) rfl rfl, k_pre hP hD hS hE hA⟩ rfl rfl hl.1 rfl (lv_room (Nat.le_of_ble_eq_true rfl)) dX6_hidden_10 ⟨Nat.zero_le _, Nat.zero_le _⟩) hD hS hA (fun H locs hP hD hS => ?_)
    obtain rfl := o_ret hf
    exact k_iret hx hb hr hP hD hS (Nat.zero_le _) (Nat.zero_le _) hlocks dX6_hidden_13
noncomputable def mX6_image_s17 (c1 : Int32) (s17 : Int32 × KS) : Option ((KS) ⊕ (Int32 × KS)) :=
  if 200 ≤ s17.1 then
  (some (.inl s17.2))
  else
  (gd (inb s17.1 200) (gd (inb ((200 * c1) + s17.1) 400) (some (.inr ((s17.1 + 1), (sR s17.2 1 (upd (gR s17.2 1) (((200 * c1) + s17.1).toNatClampNeg) ((gR s17.2 0) (s17.1.toNatClampNeg)))))))))
noncomputable def mX6_image (u : KS) (a1 : Int32) : Option (Int32 × KS) :=
  (mX6_in (a1.toInt64) 0 1).bind fun r4 =>
  if r4 = 0 then
  ((mX6_bad u).bind fun r11 =>
  some (r11.1, r11.2))
  else
  ((lpF (mX6_image_s17 a1) (0, u)).bind fun e17 =>
  gd (inb a1 2) (some (1, (sR e17 2 (upd (gR e17 2) (a1.toNatClampNeg) (vp_nar .boolean 1))))))
abbrev rmX6_image : Room := { frames := 2, cells := 0, slots := 0, locals := 42 }
set_option maxRecDepth 100000 in
set_option maxHeartbeats 4000000 in
theorem zX6_image (l : Launch) (D : va_G) (cy : Nat → ClassId) (sa : Nat → Nat) (q : Nat → Nat) (rest : va_W) (sz : Nat) (u : KS) (a1 : Int32) (res : Int32 × KS) (hf : mX6_image u a1 = some res) : kMi l yX6_image (wsK yX6_image cX6_image 3 (some .int)) rmX6_image D cy sa (WM q cy u ++ rest) sz [.ref (q 0), .int a1] res.1 (WM q cy res.2 ++ rest) 0 0 := by
  refine kM_of (Qc := fun A => kQi D A res.1 (WM q cy res.2 ++ rest)) (cc := cX6_image) (maxL := 3) (ret := (some .int)) (by decide) (Nat.le_of_ble_eq_true rfl) ?_
  intro p e s m below meth c A hx hb hml hr hts hown hlocks hin hA hP hD hS hE hsz ls hl
  have hown : s.vm.findClass RX6 = some m.cls := hown
  obtain ⟨H, hH0⟩ : ∃ H, H = s.heap := ⟨_, rfl⟩
  obtain ⟨locs, hlocs0⟩ : ∃ locs : List Loc, locs = [] := ⟨_, rfl⟩
  have hP : va_P D vwCl (WM q cy u ++ rest) H := by rw [hH0]; exact hP
  have hS : va_S A s.heap H locs := by rw [hH0, hlocs0]; exact hS
  have hl : lv_has ls 3 [(0, .ref (q 0)), (1, .int a1)] := hl
  suffices hgoal : W p l e rmX6_image s m ([.ref (q 0), .int a1] : List Value).toArray below meth c H locs 0 0 (MQ below (kQi D A res.1 (WM q cy res.2 ++ rest)) ([.ref (q 0), .int a1] : List Value).toArray s 0 0 A) (F0 m 0 ls []) by rw [hH0, hlocs0] at hgoal; exact hgoal
  clear hH0 hlocs0
  unfold mX6_image at hf
  refine lv_iload_n hx hb dX6_image_0 rfl (lv_at hl 1 rfl) ?_
  refine lv_i2l (v := (a1.toInt64)) hx hb dX6_image_1 rfl ?_
  refine lv_lconst (v := 0) hx hb dX6_image_2 (by decide) ?_
  refine lv_lconst (v := 1) hx hb dX6_image_3 (by decide) ?_
  obtain ⟨r4, h4r, hf⟩ := o_bs hf
  refine k_goi (va_runS (As := [.long (a1.toInt64), .long 0, .long 1]) (rest := []) ⟨hx, hb, hml, hown, hts⟩ (zX6_in l D cy sa (WM q cy u ++ rest) H.size (a1.toInt64) 0 1  r4  h4r) (va_cwS 3 hts (gB_S wB141 wB142 wB5 wB143) rfl rfl rfl (by decide +kernel) ⟨Nat.le_of_ble_eq_true rfl, Nat.le_of_ble_eq_true rfl⟩) ⟨kP.blind, k_pre hP hD hS hE hA⟩ rfl rfl hl.1 rfl (lv_room (Nat.le_of_ble_eq_true rfl)) dX6_image_4 ⟨Nat.zero_le _, Nat.zero_le _⟩) hD hS hA (fun H locs hP hD hS => ?_)
  refine lv_if_ne (tgt := 15) hx hb dX6_image_7 (by decide) (fun c7 => ?_) (fun c7 => ?_)
  · have hf := o_in c7 hf
    refine lv_iconst (v := 0) hx hb dX6_image_15 (by decide) ?_
    refine lv_istore_n (lv' := [(2, .int 0), (0, .ref (q 0)), (1, .int a1)]) hx hb dX6_image_16 rfl hl (by decide) rfl (fun ls hl => ?_)
    have L17 : ∀ (n17v : Nat) (s17 : Int32 × KS) (e17 : KS), lpO (mX6_image_s17 a1) n17v s17 = some e17 → ∀ (H : Heap) (locs : List Loc) (ls : Array Slot), va_P D vwCl (WM q cy s17.2 ++ rest) H → va_D A (WM q cy s17.2 ++ rest) → va_S A s.heap H locs → lv_has ls 3 [(0, .ref (q 0)), (1, .int a1), (2, .int s17.1)] → (∀ (H : Heap) (locs : List Loc) (ls : Array Slot), va_P D vwCl (WM q cy e17 ++ rest) H → va_D A (WM q cy e17 ++ rest) → va_S A s.heap H locs → lv_has ls 3 [(0, .ref (q 0)), (1, .int a1)] → W p l e rmX6_image s m ([.ref (q 0), .int a1] : List Value).toArray below meth c H locs 0 0 (MQ below (kQi D A res.1 (WM q cy res.2 ++ rest)) ([.ref (q 0), .int a1] : List Value).toArray s 0 0 A) (F0 m 48 ls [])) → W p l e rmX6_image s m ([.ref (q 0), .int a1] : List Value).toArray below meth c H locs 0 0 (MQ below (kQi D A res.1 (WM q cy res.2 ++ rest)) ([.ref (q 0), .int a1] : List Value).toArray s 0 0 A) (F0 m 17 ls []) := by
      intro n17v
      induction n17v with
      | zero => intro s17 e17 h; exact (lpO_z h).elim
      | succ n17v ih17 =>
        intro s17 e17 h17z H locs ls hP hD hS hl K17_0
        obtain ⟨x17, hf, h17z⟩ := lpO_s h17z
        unfold mX6_image_s17 at hf
        refine lv_iload_n hx hb dX6_image_17 rfl (lv_at hl 2 rfl) ?_
        refine lv_sipush (v := 200) hx hb dX6_image_18 (by decide) ?_
        refine lv_icmp_ge (tgt := 48) hx hb dX6_image_21 (by decide) (fun c21 => ?_) (fun c21 => ?_)
        · have hf := o_ip c21 hf
          obtain rfl := o_ret hf
          obtain rfl := lpK_l h17z
          exact K17_0 _ _ _ hP hD hS (lv_sub hl [0, 1] rfl)
        · have hf := o_in c21 hf
          refine lv_aload_n hx hb dX6_image_24 rfl (lv_at hl 0 rfl) ?_
          refine va_get (ci := 6) (v := .ref (q 2)) (C := RX6) (T := TX6) (N := 26) hx hb hts inlX6 hown hE.1 hP 0 rfl rfl 1 (by decide) (hts _ wB84) (fun _ h9 => h9) rfl dX6_image_25 ?_
          refine lv_sipush (v := 200) hx hb dX6_image_28 (by decide) ?_
          refine lv_iload_n hx hb dX6_image_31 rfl (lv_at hl 1 rfl) ?_
          refine lv_imul hx hb dX6_image_32 ?_
          refine lv_iload_n hx hb dX6_image_33 rfl (lv_at hl 2 rfl) ?_
          refine lv_iadd hx hb dX6_image_34 ?_
          refine lv_aload_n hx hb dX6_image_35 rfl (lv_at hl 0 rfl) ?_
          refine va_get (ci := 6) (v := .ref (q 1)) (C := RX6) (T := TX6) (N := 26) hx hb hts inlX6 hown hE.1 hP 0 rfl rfl 0 (by decide) (hts _ wB83) (fun _ h9 => h9) rfl dX6_image_36 ?_
          refine lv_iload_n hx hb dX6_image_39 rfl (lv_at hl 2 rfl) ?_
          obtain ⟨hg40, hf⟩ := gd_s hf
          refine va_iald (f := (gR s17.2 0)) hx hb hE.1 hP 1 0 rfl rfl hg40 dX6_image_40 ?_
          obtain ⟨hg41, hf⟩ := gd_s hf
          refine va_iast (f := (gR s17.2 1)) hx hb hE.1 hP hD hS 2 0 rfl rfl hg41 dX6_image_41 (fun H locs hP hD hS => ?_)
          have hP : va_P D vwCl (WM q cy (sR s17.2 1 (upd (gR s17.2 1) (((200 * a1) + s17.1).toNatClampNeg) ((gR s17.2 0) (s17.1.toNatClampNeg)))) ++ rest) H := hP
          have hD : va_D A (WM q cy (sR s17.2 1 (upd (gR s17.2 1) (((200 * a1) + s17.1).toNatClampNeg) ((gR s17.2 0) (s17.1.toNatClampNeg)))) ++ rest) := hD
          refine lv_iinc (v := (s17.1 + 1)) (lv' := [(2, .int (s17.1 + 1)), (0, .ref (q 0)), (1, .int a1)]) hx hb dX6_image_42 hl (k := 2) rfl (by rfl) (by decide) rfl (fun ls hl => ?_)
          refine lv_goto (tgt := 17) hx hb dX6_image_45 (by decide) ?_
          obtain rfl := o_ret hf
          exact ih17 _ _ (lpK_r h17z) _ _ _ hP hD hS (lv_sub hl [1, 2, 0] rfl) K17_0
    obtain ⟨e17, h17q, hf⟩ := o_bs hf
    obtain ⟨n17v, h17q⟩ := lpF_ex h17q
    refine L17 n17v _ e17 h17q _ _ _ hP hD hS (lv_sub hl [1, 2, 0] rfl) ?_
    intro H locs ls hP hD hS hl
    refine lv_aload_n hx hb dX6_image_48 rfl (lv_at hl 0 rfl) ?_
    refine va_get (ci := 6) (v := .ref (q 3)) (C := RX6) (T := TX6) (N := 26) hx hb hts inlX6 hown hE.1 hP 0 rfl rfl 2 (by decide) (hts _ wB86) (fun _ h9 => h9) rfl dX6_image_49 ?_
    refine lv_iload_n hx hb dX6_image_52 rfl (lv_at hl 1 rfl) ?_
    refine lv_iconst (v := 1) hx hb dX6_image_53 (by decide) ?_
    obtain ⟨hg54, hf⟩ := gd_s hf
    refine va_zast (f := (gR e17 2)) hx hb hE.1 hP hD hS 3 2 rfl rfl hg54 dX6_image_54 (fun H locs hP hD hS => ?_)
    have hP : va_P D vwCl (WM q cy (sR e17 2 (upd (gR e17 2) (a1.toNatClampNeg) (vp_nar .boolean 1))) ++ rest) H := hP
    have hD : va_D A (WM q cy (sR e17 2 (upd (gR e17 2) (a1.toNatClampNeg) (vp_nar .boolean 1))) ++ rest) := hD
    refine lv_iconst (v := 1) hx hb dX6_image_55 (by decide) ?_
    obtain rfl := o_ret hf
    exact k_iret hx hb hr hP hD hS (Nat.zero_le _) (Nat.zero_le _) hlocks dX6_image_56
  · have hf := o_ip c7 hf
    refine lv_aload_n hx hb dX6_image_10 rfl (lv_at hl 0 rfl) ?_
    obtain ⟨r11, h11r, hf⟩ := o_bs hf
    refine k_goi (va_runV (As := []) (rest := []) ⟨hx, hb, hml, hown, hts⟩ (zX6_bad l D cy sa q rest H.size u  r11 h11r) (cwV 0 hts (gB_V wB144 wB145 wB146 wB5 wB147) rfl rfl rfl (by decide +kernel) ⟨Nat.le_of_ble_eq_true rfl, Nat.le_of_ble_eq_true rfl⟩) ⟨kP.blind, k_recv hE hP (ci := 6) (q0 := 0) rfl rfl, k_pre hP hD hS hE hA⟩ rfl rfl hl.1 rfl (lv_room (Nat.le_of_ble_eq_true rfl)) dX6_image_11 ⟨Nat.zero_le _, Nat.zero_le _⟩) hD hS hA (fun H locs hP hD hS => ?_)
    obtain rfl := o_ret hf
    exact k_iret hx hb hr hP hD hS (Nat.zero_le _) (Nat.zero_le _) hlocks dX6_image_14
noncomputable def mX6_weightOf (u : KS) (a1 : Int32) : Option (Int32) :=
  gd (inb (8 + (a1 / 3)) 200) (some (((gR u 0) ((8 + (a1 / 3)).toNatClampNeg)) * (3 - (a1 - a1 / 3 * 3))))
abbrev rmX6_weightOf : Room := { frames := 0, cells := 0, slots := 0, locals := 0 }
set_option maxRecDepth 100000 in
set_option maxHeartbeats 4000000 in
theorem zX6_weightOf (l : Launch) (D : va_G) (cy : Nat → ClassId) (sa : Nat → Nat) (q : Nat → Nat) (rest : va_W) (sz : Nat) (u : KS) (a1 : Int32) (res : Int32) (hf : mX6_weightOf u a1 = some res) : kMi l yX6_weightOf (wsK yX6_weightOf cX6_weightOf 2 (some .int)) rmX6_weightOf D cy sa (WM q cy u ++ rest) sz [.ref (q 0), .int a1] res (WM q cy u ++ rest) 0 0 := by
  refine kM_of (Qc := fun A => kQi D A res (WM q cy u ++ rest)) (cc := cX6_weightOf) (maxL := 2) (ret := (some .int)) (by decide) (Nat.le_of_ble_eq_true rfl) ?_
  intro p e s m below meth c A hx hb hml hr hts hown hlocks hin hA hP hD hS hE hsz ls hl
  have hown : s.vm.findClass RX6 = some m.cls := hown
  obtain ⟨H, hH0⟩ : ∃ H, H = s.heap := ⟨_, rfl⟩
  obtain ⟨locs, hlocs0⟩ : ∃ locs : List Loc, locs = [] := ⟨_, rfl⟩
  have hP : va_P D vwCl (WM q cy u ++ rest) H := by rw [hH0]; exact hP
  have hS : va_S A s.heap H locs := by rw [hH0, hlocs0]; exact hS
  have hl : lv_has ls 2 [(0, .ref (q 0)), (1, .int a1)] := hl
  suffices hgoal : W p l e rmX6_weightOf s m ([.ref (q 0), .int a1] : List Value).toArray below meth c H locs 0 0 (MQ below (kQi D A res (WM q cy u ++ rest)) ([.ref (q 0), .int a1] : List Value).toArray s 0 0 A) (F0 m 0 ls []) by rw [hH0, hlocs0] at hgoal; exact hgoal
  clear hH0 hlocs0
  unfold mX6_weightOf at hf
  refine lv_aload_n hx hb dX6_weightOf_0 rfl (lv_at hl 0 rfl) ?_
  refine va_get (ci := 6) (v := .ref (q 1)) (C := RX6) (T := TX6) (N := 26) hx hb hts inlX6 hown hE.1 hP 0 rfl rfl 0 (by decide) (hts _ wB83) (fun _ h9 => h9) rfl dX6_weightOf_1 ?_
  refine lv_bipush (v := 8) hx hb dX6_weightOf_4 (by decide) ?_
  refine lv_iload_n hx hb dX6_weightOf_6 rfl (lv_at hl 1 rfl) ?_
  refine lv_iconst (v := 3) hx hb dX6_weightOf_7 (by decide) ?_
  refine lv_idiv hx hb dX6_weightOf_8 (by decide) ?_
  refine lv_iadd hx hb dX6_weightOf_9 ?_
  obtain ⟨hg10, hf⟩ := gd_s hf
  refine va_iald (f := (gR u 0)) hx hb hE.1 hP 1 0 rfl rfl hg10 dX6_weightOf_10 ?_
  refine lv_iconst (v := 3) hx hb dX6_weightOf_11 (by decide) ?_
  refine lv_iload_n hx hb dX6_weightOf_12 rfl (lv_at hl 1 rfl) ?_
  refine lv_iconst (v := 3) hx hb dX6_weightOf_13 (by decide) ?_
  refine lv_irem hx hb dX6_weightOf_14 (by decide) ?_
  refine lv_isub hx hb dX6_weightOf_15 ?_
  refine lv_imul hx hb dX6_weightOf_16 ?_
  obtain rfl := o_ret hf
  exact k_iret hx hb hr hP hD hS (Nat.zero_le _) (Nat.zero_le _) hlocks dX6_weightOf_17
noncomputable def mX6_levelOf (u : KS) (a1 : Int32) (a2 : Int32) (a3 : Int32) : Option (Int32) :=
  if (gI u 6) = (-1) then
  (if (gI u 7) = (-1) then
  (some 0)
  else
  (if (gI u 7) = a3 then
  (some 0)
  else
  ((mX6_given u (gI u 9) a1 a2).bind fun r59 =>
  if (0 + r59) = 0 then
  (some 0)
  else
  (if ((gR u 0) ((5 : Int32).toNatClampNeg)) < (0 + r59) then
  (some 2)
  else
  (some 1)))))
  else
  (if (gI u 6) = a3 then
  (if (gI u 7) = (-1) then
  (some 0)
  else
  (if (gI u 7) = a3 then
  (some 0)
  else
  ((mX6_given u (gI u 9) a1 a2).bind fun r59 =>
  if (0 + r59) = 0 then
  (some 0)
  else
  (if ((gR u 0) ((5 : Int32).toNatClampNeg)) < (0 + r59) then
  (some 2)
  else
  (some 1)))))
  else
  ((mX6_given u (gI u 8) a1 a2).bind fun r28 =>
  if (gI u 7) = (-1) then
  (if (0 + r28) = 0 then
  (some 0)
  else
  (if ((gR u 0) ((5 : Int32).toNatClampNeg)) < (0 + r28) then
  (some 2)
  else
  (some 1)))
  else
  (if (gI u 7) = a3 then
  (if (0 + r28) = 0 then
  (some 0)
  else
  (if ((gR u 0) ((5 : Int32).toNatClampNeg)) < (0 + r28) then
  (some 2)
  else
  (some 1)))
  else
  ((mX6_given u (gI u 9) a1 a2).bind fun r59 =>
  if ((0 + r28) + r59) = 0 then
  (some 0)
  else
  (if ((gR u 0) ((5 : Int32).toNatClampNeg)) < ((0 + r28) + r59) then
  (some 2)
  else
  (some 1))))))
abbrev rmX6_levelOf : Room := { frames := 1, cells := 0, slots := 0, locals := 23 }
set_option maxRecDepth 100000 in
set_option maxHeartbeats 4000000 in
theorem zX6_levelOf (l : Launch) (D : va_G) (cy : Nat → ClassId) (sa : Nat → Nat) (q : Nat → Nat) (rest : va_W) (sz : Nat) (u : KS) (a1 : Int32) (a2 : Int32) (a3 : Int32) (res : Int32) (hf : mX6_levelOf u a1 a2 a3 = some res) : kMi l yX6_levelOf (wsK yX6_levelOf cX6_levelOf 5 (some .int)) rmX6_levelOf D cy sa (WM q cy u ++ rest) sz [.ref (q 0), .int a1, .int a2, .int a3] res (WM q cy u ++ rest) 0 0 := by
  refine kM_of (Qc := fun A => kQi D A res (WM q cy u ++ rest)) (cc := cX6_levelOf) (maxL := 5) (ret := (some .int)) (by decide) (Nat.le_of_ble_eq_true rfl) ?_
  intro p e s m below meth c A hx hb hml hr hts hown hlocks hin hA hP hD hS hE hsz ls hl
  have hown : s.vm.findClass RX6 = some m.cls := hown
  obtain ⟨H, hH0⟩ : ∃ H, H = s.heap := ⟨_, rfl⟩
  obtain ⟨locs, hlocs0⟩ : ∃ locs : List Loc, locs = [] := ⟨_, rfl⟩
  have hP : va_P D vwCl (WM q cy u ++ rest) H := by rw [hH0]; exact hP
  have hS : va_S A s.heap H locs := by rw [hH0, hlocs0]; exact hS
  have hl : lv_has ls 5 [(0, .ref (q 0)), (1, .int a1), (2, .int a2), (3, .int a3)] := hl
  suffices hgoal : W p l e rmX6_levelOf s m ([.ref (q 0), .int a1, .int a2, .int a3] : List Value).toArray below meth c H locs 0 0 (MQ below (kQi D A res (WM q cy u ++ rest)) ([.ref (q 0), .int a1, .int a2, .int a3] : List Value).toArray s 0 0 A) (F0 m 0 ls []) by rw [hH0, hlocs0] at hgoal; exact hgoal
  clear hH0 hlocs0
  unfold mX6_levelOf at hf
  refine lv_iconst (v := 0) hx hb dX6_levelOf_0 (by decide) ?_
  refine lv_istore (lv' := [(4, .int 0), (0, .ref (q 0)), (1, .int a1), (2, .int a2), (3, .int a3)]) hx hb dX6_levelOf_1 hl (by decide) rfl (fun ls hl => ?_)
  refine lv_aload_n hx hb dX6_levelOf_3 rfl (lv_at hl 1 rfl) ?_
  refine va_get (ci := 6) (v := .int (gI u 6)) (C := RX6) (T := TX6) (N := 26) hx hb hts inlX6 hown hE.1 hP 0 rfl rfl 16 (by decide) (hts _ wB558) (fun _ h9 => h9) rfl dX6_levelOf_4 ?_
  refine lv_iconst (v := (-1)) hx hb dX6_levelOf_7 (by decide) ?_
  refine lv_icmp_eq (tgt := 34) hx hb dX6_levelOf_8 (by decide) (fun c8 => ?_) (fun c8 => ?_)
  · have hf := o_ip c8 hf
    refine lv_aload_n hx hb dX6_levelOf_34 rfl (lv_at hl 1 rfl) ?_
    refine va_get (ci := 6) (v := .int (gI u 7)) (C := RX6) (T := TX6) (N := 26) hx hb hts inlX6 hown hE.1 hP 0 rfl rfl 17 (by decide) (hts _ wB560) (fun _ h9 => h9) rfl dX6_levelOf_35 ?_
    refine lv_iconst (v := (-1)) hx hb dX6_levelOf_38 (by decide) ?_
    refine lv_icmp_eq (tgt := 65) hx hb dX6_levelOf_39 (by decide) (fun c39 => ?_) (fun c39 => ?_)
    · have hf := o_ip c39 hf
      refine lv_iload hx hb dX6_levelOf_65 (lv_at hl 0 rfl) ?_
      refine lv_if_ne (tgt := 74) hx hb dX6_levelOf_67 (by decide) (fun c67 => absurd c67 (by decide)) (fun c67 => ?_)
      refine lv_iconst (v := 0) hx hb dX6_levelOf_70 (by decide) ?_
      refine lv_goto (tgt := 90) hx hb dX6_levelOf_71 (by decide) ?_
      obtain rfl := o_ret hf
      exact k_iret hx hb hr hP hD hS (Nat.zero_le _) (Nat.zero_le _) hlocks dX6_levelOf_90
    · have hf := o_in c39 hf
      refine lv_aload_n hx hb dX6_levelOf_42 rfl (lv_at hl 1 rfl) ?_
      refine va_get (ci := 6) (v := .int (gI u 7)) (C := RX6) (T := TX6) (N := 26) hx hb hts inlX6 hown hE.1 hP 0 rfl rfl 17 (by decide) (hts _ wB560) (fun _ h9 => h9) rfl dX6_levelOf_43 ?_
      refine lv_iload_n hx hb dX6_levelOf_46 rfl (lv_at hl 4 rfl) ?_
      refine lv_icmp_eq (tgt := 65) hx hb dX6_levelOf_47 (by decide) (fun c47 => ?_) (fun c47 => ?_)
      · have hf := o_ip c47 hf
        refine lv_iload hx hb dX6_levelOf_65 (lv_at hl 0 rfl) ?_
        refine lv_if_ne (tgt := 74) hx hb dX6_levelOf_67 (by decide) (fun c67 => absurd c67 (by decide)) (fun c67 => ?_)
        refine lv_iconst (v := 0) hx hb dX6_levelOf_70 (by decide) ?_
        refine lv_goto (tgt := 90) hx hb dX6_levelOf_71 (by decide) ?_
        obtain rfl := o_ret hf
        exact k_iret hx hb hr hP hD hS (Nat.zero_le _) (Nat.zero_le _) hlocks dX6_levelOf_90
      · have hf := o_in c47 hf
        refine lv_iload hx hb dX6_levelOf_50 (lv_at hl 0 rfl) ?_
        refine lv_aload_n hx hb dX6_levelOf_52 rfl (lv_at hl 1 rfl) ?_
        refine lv_aload_n hx hb dX6_levelOf_53 rfl (lv_at hl 1 rfl) ?_
        refine va_get (ci := 6) (v := .int (gI u 9)) (C := RX6) (T := TX6) (N := 26) hx hb hts inlX6 hown hE.1 hP 0 rfl rfl 19 (by decide) (hts _ wB561) (fun _ h9 => h9) rfl dX6_levelOf_54 ?_
        refine lv_iload_n hx hb dX6_levelOf_57 rfl (lv_at hl 2 rfl) ?_
        refine lv_iload_n hx hb dX6_levelOf_58 rfl (lv_at hl 3 rfl) ?_
        obtain ⟨r59, h59r, hf⟩ := o_bs hf
        refine k_goi (va_runV (As := [.int (gI u 9), .int a1, .int a2]) (rest := [.int 0]) ⟨hx, hb, hml, hown, hts⟩ (zX6_given l D cy sa q rest H.size u (gI u 9) a1 a2 r59 h59r) (cwV 3 hts (gB_V wB442 wB443 wB444 wB5 wB445) rfl rfl rfl (by decide +kernel) ⟨Nat.le_of_ble_eq_true rfl, Nat.le_of_ble_eq_true rfl⟩) ⟨kP.blind, k_recv hE hP (ci := 6) (q0 := 0) rfl rfl, k_pre hP hD hS hE hA⟩ rfl rfl hl.1 rfl (lv_room (Nat.le_of_ble_eq_true rfl)) dX6_levelOf_59 ⟨Nat.zero_le _, Nat.zero_le _⟩) hD hS hA (fun H locs hP hD hS => ?_)
        refine lv_iadd hx hb dX6_levelOf_62 ?_
        refine lv_istore (lv' := [(4, .int (0 + r59)), (0, .ref (q 0)), (1, .int a1), (2, .int a2), (3, .int a3)]) hx hb dX6_levelOf_63 hl (by decide) rfl (fun ls hl => ?_)
        refine lv_iload hx hb dX6_levelOf_65 (lv_at hl 0 rfl) ?_
        refine lv_if_ne (tgt := 74) hx hb dX6_levelOf_67 (by decide) (fun c67 => ?_) (fun c67 => ?_)
        · have hf := o_in c67 hf
          refine lv_iload hx hb dX6_levelOf_74 (lv_at hl 0 rfl) ?_
          refine lv_aload_n hx hb dX6_levelOf_76 rfl (lv_at hl 1 rfl) ?_
          refine va_get (ci := 6) (v := .ref (q 1)) (C := RX6) (T := TX6) (N := 26) hx hb hts inlX6 hown hE.1 hP 0 rfl rfl 0 (by decide) (hts _ wB83) (fun _ h9 => h9) rfl dX6_levelOf_77 ?_
          refine lv_iconst (v := 5) hx hb dX6_levelOf_80 (by decide) ?_
          refine va_iald (f := (gR u 0)) hx hb hE.1 hP 1 0 rfl rfl (k_in (by decide)) dX6_levelOf_81 ?_
          refine lv_icmp_gt (tgt := 89) hx hb dX6_levelOf_82 (by decide) (fun c82 => ?_) (fun c82 => ?_)
          · have hf := o_ip c82 hf
            refine lv_iconst (v := 2) hx hb dX6_levelOf_89 (by decide) ?_
            obtain rfl := o_ret hf
            exact k_iret hx hb hr hP hD hS (Nat.zero_le _) (Nat.zero_le _) hlocks dX6_levelOf_90
          · have hf := o_in c82 hf
            refine lv_iconst (v := 1) hx hb dX6_levelOf_85 (by decide) ?_
            refine lv_goto (tgt := 90) hx hb dX6_levelOf_86 (by decide) ?_
            obtain rfl := o_ret hf
            exact k_iret hx hb hr hP hD hS (Nat.zero_le _) (Nat.zero_le _) hlocks dX6_levelOf_90
        · have hf := o_ip c67 hf
          refine lv_iconst (v := 0) hx hb dX6_levelOf_70 (by decide) ?_
          refine lv_goto (tgt := 90) hx hb dX6_levelOf_71 (by decide) ?_
          obtain rfl := o_ret hf
          exact k_iret hx hb hr hP hD hS (Nat.zero_le _) (Nat.zero_le _) hlocks dX6_levelOf_90
  · have hf := o_in c8 hf
    refine lv_aload_n hx hb dX6_levelOf_11 rfl (lv_at hl 1 rfl) ?_
    refine va_get (ci := 6) (v := .int (gI u 6)) (C := RX6) (T := TX6) (N := 26) hx hb hts inlX6 hown hE.1 hP 0 rfl rfl 16 (by decide) (hts _ wB558) (fun _ h9 => h9) rfl dX6_levelOf_12 ?_
    refine lv_iload_n hx hb dX6_levelOf_15 rfl (lv_at hl 4 rfl) ?_
    refine lv_icmp_eq (tgt := 34) hx hb dX6_levelOf_16 (by decide) (fun c16 => ?_) (fun c16 => ?_)
    · have hf := o_ip c16 hf
      refine lv_aload_n hx hb dX6_levelOf_34 rfl (lv_at hl 1 rfl) ?_
      refine va_get (ci := 6) (v := .int (gI u 7)) (C := RX6) (T := TX6) (N := 26) hx hb hts inlX6 hown hE.1 hP 0 rfl rfl 17 (by decide) (hts _ wB560) (fun _ h9 => h9) rfl dX6_levelOf_35 ?_
      refine lv_iconst (v := (-1)) hx hb dX6_levelOf_38 (by decide) ?_
      refine lv_icmp_eq (tgt := 65) hx hb dX6_levelOf_39 (by decide) (fun c39 => ?_) (fun c39 => ?_)
      · have hf := o_ip c39 hf
        refine lv_iload hx hb dX6_levelOf_65 (lv_at hl 0 rfl) ?_
        refine lv_if_ne (tgt := 74) hx hb dX6_levelOf_67 (by decide) (fun c67 => absurd c67 (by decide)) (fun c67 => ?_)
        refine lv_iconst (v := 0) hx hb dX6_levelOf_70 (by decide) ?_
        refine lv_goto (tgt := 90) hx hb dX6_levelOf_71 (by decide) ?_
        obtain rfl := o_ret hf
        exact k_iret hx hb hr hP hD hS (Nat.zero_le _) (Nat.zero_le _) hlocks dX6_levelOf_90
      · have hf := o_in c39 hf
        refine lv_aload_n hx hb dX6_levelOf_42 rfl (lv_at hl 1 rfl) ?_
        refine va_get (ci := 6) (v := .int (gI u 7)) (C := RX6) (T := TX6) (N := 26) hx hb hts inlX6 hown hE.1 hP 0 rfl rfl 17 (by decide) (hts _ wB560) (fun _ h9 => h9) rfl dX6_levelOf_43 ?_
        refine lv_iload_n hx hb dX6_levelOf_46 rfl (lv_at hl 4 rfl) ?_
        refine lv_icmp_eq (tgt := 65) hx hb dX6_levelOf_47 (by decide) (fun c47 => ?_) (fun c47 => ?_)
        · have hf := o_ip c47 hf
          refine lv_iload hx hb dX6_levelOf_65 (lv_at hl 0 rfl) ?_
          refine lv_if_ne (tgt := 74) hx hb dX6_levelOf_67 (by decide) (fun c67 => absurd c67 (by decide)) (fun c67 => ?_)
          refine lv_iconst (v := 0) hx hb dX6_levelOf_70 (by decide) ?_
          refine lv_goto (tgt := 90) hx hb dX6_levelOf_71 (by decide) ?_
          obtain rfl := o_ret hf
          exact k_iret hx hb hr hP hD hS (Nat.zero_le _) (Nat.zero_le _) hlocks dX6_levelOf_90
        · have hf := o_in c47 hf
          refine lv_iload hx hb dX6_levelOf_50 (lv_at hl 0 rfl) ?_
          refine lv_aload_n hx hb dX6_levelOf_52 rfl (lv_at hl 1 rfl) ?_
          refine lv_aload_n hx hb dX6_levelOf_53 rfl (lv_at hl 1 rfl) ?_
          refine va_get (ci := 6) (v := .int (gI u 9)) (C := RX6) (T := TX6) (N := 26) hx hb hts inlX6 hown hE.1 hP 0 rfl rfl 19 (by decide) (hts _ wB561) (fun _ h9 => h9) rfl dX6_levelOf_54 ?_
          refine lv_iload_n hx hb dX6_levelOf_57 rfl (lv_at hl 2 rfl) ?_
          refine lv_iload_n hx hb dX6_levelOf_58 rfl (lv_at hl 3 rfl) ?_
          obtain ⟨r59, h59r, hf⟩ := o_bs hf
          refine k_goi (va_runV (As := [.int (gI u 9), .int a1, .int a2]) (rest := [.int 0]) ⟨hx, hb, hml, hown, hts⟩ (zX6_given l D cy sa q rest H.size u (gI u 9) a1 a2 r59 h59r) (cwV 3 hts (gB_V wB442 wB443 wB444 wB5 wB445) rfl rfl rfl (by decide +kernel) ⟨Nat.le_of_ble_eq_true rfl, Nat.le_of_ble_eq_true rfl⟩) ⟨kP.blind, k_recv hE hP (ci := 6) (q0 := 0) rfl rfl, k_pre hP hD hS hE hA⟩ rfl rfl hl.1 rfl (lv_room (Nat.le_of_ble_eq_true rfl)) dX6_levelOf_59 ⟨Nat.zero_le _, Nat.zero_le _⟩) hD hS hA (fun H locs hP hD hS => ?_)
          refine lv_iadd hx hb dX6_levelOf_62 ?_
          refine lv_istore (lv' := [(4, .int (0 + r59)), (0, .ref (q 0)), (1, .int a1), (2, .int a2), (3, .int a3)]) hx hb dX6_levelOf_63 hl (by decide) rfl (fun ls hl => ?_)
          refine lv_iload hx hb dX6_levelOf_65 (lv_at hl 0 rfl) ?_
          refine lv_if_ne (tgt := 74) hx hb dX6_levelOf_67 (by decide) (fun c67 => ?_) (fun c67 => ?_)
          · have hf := o_in c67 hf
            refine lv_iload hx hb dX6_levelOf_74 (lv_at hl 0 rfl) ?_
            refine lv_aload_n hx hb dX6_levelOf_76 rfl (lv_at hl 1 rfl) ?_
            refine va_get (ci := 6) (v := .ref (q 1)) (C := RX6) (T := TX6) (N := 26) hx hb hts inlX6 hown hE.1 hP 0 rfl rfl 0 (by decide) (hts _ wB83) (fun _ h9 => h9) rfl dX6_levelOf_77 ?_
            refine lv_iconst (v := 5) hx hb dX6_levelOf_80 (by decide) ?_
            refine va_iald (f := (gR u 0)) hx hb hE.1 hP 1 0 rfl rfl (k_in (by decide)) dX6_levelOf_81 ?_
            refine lv_icmp_gt (tgt := 89) hx hb dX6_levelOf_82 (by decide) (fun c82 => ?_) (fun c82 => ?_)
            · have hf := o_ip c82 hf
              refine lv_iconst (v := 2) hx hb dX6_levelOf_89 (by decide) ?_
              obtain rfl := o_ret hf
              exact k_iret hx hb hr hP hD hS (Nat.zero_le _) (Nat.zero_le _) hlocks dX6_levelOf_90
            · have hf := o_in c82 hf
              refine lv_iconst (v := 1) hx hb dX6_levelOf_85 (by decide) ?_
              refine lv_goto (tgt := 90) hx hb dX6_levelOf_86 (by decide) ?_
              obtain rfl := o_ret hf
              exact k_iret hx hb hr hP hD hS (Nat.zero_le _) (Nat.zero_le _) hlocks dX6_levelOf_90
          · have hf := o_ip c67 hf
            refine lv_iconst (v := 0) hx hb dX6_levelOf_70 (by decide) ?_
            refine lv_goto (tgt := 90) hx hb dX6_levelOf_71 (by decide) ?_
            obtain rfl := o_ret hf
            exact k_iret hx hb hr hP hD hS (Nat.zero_le _) (Nat.zero_le _) hlocks dX6_levelOf_90
    · have hf := o_in c16 hf
      refine lv_iload hx hb dX6_levelOf_19 (lv_at hl 0 rfl) ?_
      refine lv_aload_n hx hb dX6_levelOf_21 rfl (lv_at hl 1 rfl) ?_
      refine lv_aload_n hx hb dX6_levelOf_22 rfl (lv_at hl 1 rfl) ?_
      refine va_get (ci := 6) (v := .int (gI u 8)) (C := RX6) (T := TX6) (N := 26) hx hb hts inlX6 hown hE.1 hP 0 rfl rfl 18 (by decide) (hts _ wB559) (fun _ h9 => h9) rfl dX6_levelOf_23 ?_
      refine lv_iload_n hx hb dX6_levelOf_26 rfl (lv_at hl 2 rfl) ?_
      refine lv_iload_n hx hb dX6_levelOf_27 rfl (lv_at hl 3 rfl) ?_
      obtain ⟨r28, h28r, hf⟩ := o_bs hf
      refine k_goi (va_runV (As := [.int (gI u 8), .int a1, .int a2]) (rest := [.int 0]) ⟨hx, hb, hml, hown, hts⟩ (zX6_given l D cy sa q rest H.size u (gI u 8) a1 a2 r28 h28r) (cwV 3 hts (gB_V wB442 wB443 wB444 wB5 wB445) rfl rfl rfl (by decide +kernel) ⟨Nat.le_of_ble_eq_true rfl, Nat.le_of_ble_eq_true rfl⟩) ⟨kP.blind, k_recv hE hP (ci := 6) (q0 := 0) rfl rfl, k_pre hP hD hS hE hA⟩ rfl rfl hl.1 rfl (lv_room (Nat.le_of_ble_eq_true rfl)) dX6_levelOf_28 ⟨Nat.zero_le _, Nat.zero_le _⟩) hD hS hA (fun H locs hP hD hS => ?_)
      refine lv_iadd hx hb dX6_levelOf_31 ?_
      refine lv_istore (lv' := [(4, .int (0 + r28)), (0, .ref (q 0)), (1, .int a1), (2, .int a2), (3, .int a3)]) hx hb dX6_levelOf_32 hl (by decide) rfl (fun ls hl => ?_)
      refine lv_aload_n hx hb dX6_levelOf_34 rfl (lv_at hl 1 rfl) ?_
      refine va_get (ci := 6) (v := .int (gI u 7)) (C := RX6) (T := TX6) (N := 26) hx hb hts inlX6 hown hE.1 hP 0 rfl rfl 17 (by decide) (hts _ wB560) (fun _ h9 => h9) rfl dX6_levelOf_35 ?_
      refine lv_iconst (v := (-1)) hx hb dX6_levelOf_38 (by decide) ?_
      refine lv_icmp_eq (tgt := 65) hx hb dX6_levelOf_39 (by decide) (fun c39 => ?_) (fun c39 => ?_)
      · have hf := o_ip c39 hf
        refine lv_iload hx hb dX6_levelOf_65 (lv_at hl 0 rfl) ?_
        refine lv_if_ne (tgt := 74) hx hb dX6_levelOf_67 (by decide) (fun c67 => ?_) (fun c67 => ?_)
        · have hf := o_in c67 hf
          refine lv_iload hx hb dX6_levelOf_74 (lv_at hl 0 rfl) ?_
          refine lv_aload_n hx hb dX6_levelOf_76 rfl (lv_at hl 1 rfl) ?_
          refine va_get (ci := 6) (v := .ref (q 1)) (C := RX6) (T := TX6) (N := 26) hx hb hts inlX6 hown hE.1 hP 0 rfl rfl 0 (by decide) (hts _ wB83) (fun _ h9 => h9) rfl dX6_levelOf_77 ?_
          refine lv_iconst (v := 5) hx hb dX6_levelOf_80 (by decide) ?_
          refine va_iald (f := (gR u 0)) hx hb hE.1 hP 1 0 rfl rfl (k_in (by decide)) dX6_levelOf_81 ?_
          refine lv_icmp_gt (tgt := 89) hx hb dX6_levelOf_82 (by decide) (fun c82 => ?_) (fun c82 => ?_)
          · have hf := o_ip c82 hf
            refine lv_iconst (v := 2) hx hb dX6_levelOf_89 (by decide) ?_
            obtain rfl := o_ret hf
            exact k_iret hx hb hr hP hD hS (Nat.zero_le _) (Nat.zero_le _) hlocks dX6_levelOf_90
          · have hf := o_in c82 hf
            refine lv_iconst (v := 1) hx hb dX6_levelOf_85 (by decide) ?_
            refine lv_goto (tgt := 90) hx hb dX6_levelOf_86 (by decide) ?_
            obtain rfl := o_ret hf
            exact k_iret hx hb hr hP hD hS (Nat.zero_le _) (Nat.zero_le _) hlocks dX6_levelOf_90
        · have hf := o_ip c67 hf
          refine lv_iconst (v := 0) hx hb dX6_levelOf_70 (by decide) ?_
          refine lv_goto (tgt := 90) hx hb dX6_levelOf_71 (by decide) ?_
          obtain rfl := o_ret hf
          exact k_iret hx hb hr hP hD hS (Nat.zero_le _) (Nat.zero_le _) hlocks dX6_levelOf_90
      · have hf := o_in c39 hf
        refine lv_aload_n hx hb dX6_levelOf_42 rfl (lv_at hl 1 rfl) ?_
        refine va_get (ci := 6) (v := .int (gI u 7)) (C := RX6) (T := TX6) (N := 26) hx hb hts inlX6 hown hE.1 hP 0 rfl rfl 17 (by decide) (hts _ wB560) (fun _ h9 => h9) rfl dX6_levelOf_43 ?_
        refine lv_iload_n hx hb dX6_levelOf_46 rfl (lv_at hl 4 rfl) ?_
        refine lv_icmp_eq (tgt := 65) hx hb dX6_levelOf_47 (by decide) (fun c47 => ?_) (fun c47 => ?_)
        · have hf := o_ip c47 hf
          refine lv_iload hx hb dX6_levelOf_65 (lv_at hl 0 rfl) ?_
          refine lv_if_ne (tgt := 74) hx hb dX6_levelOf_67 (by decide) (fun c67 => ?_) (fun c67 => ?_)
          · have hf := o_in c67 hf
            refine lv_iload hx hb dX6_levelOf_74 (lv_at hl 0 rfl) ?_
            refine lv_aload_n hx hb dX6_levelOf_76 rfl (lv_at hl 1 rfl) ?_
            refine va_get (ci := 6) (v := .ref (q 1)) (C := RX6) (T := TX6) (N := 26) hx hb hts inlX6 hown hE.1 hP 0 rfl rfl 0 (by decide) (hts _ wB83) (fun _ h9 => h9) rfl dX6_levelOf_77 ?_
            refine lv_iconst (v := 5) hx hb dX6_levelOf_80 (by decide) ?_
            refine va_iald (f := (gR u 0)) hx hb hE.1 hP 1 0 rfl rfl (k_in (by decide)) dX6_levelOf_81 ?_
            refine lv_icmp_gt (tgt := 89) hx hb dX6_levelOf_82 (by decide) (fun c82 => ?_) (fun c82 => ?_)
            · have hf := o_ip c82 hf
              refine lv_iconst (v := 2) hx hb dX6_levelOf_89 (by decide) ?_
              obtain rfl := o_ret hf
              exact k_iret hx hb hr hP hD hS (Nat.zero_le _) (Nat.zero_le _) hlocks dX6_levelOf_90
            · have hf := o_in c82 hf
              refine lv_iconst (v := 1) hx hb dX6_levelOf_85 (by decide) ?_
              refine lv_goto (tgt := 90) hx hb dX6_levelOf_86 (by decide) ?_
              obtain rfl := o_ret hf
              exact k_iret hx hb hr hP hD hS (Nat.zero_le _) (Nat.zero_le _) hlocks dX6_levelOf_90
          · have hf := o_ip c67 hf
            refine lv_iconst (v := 0) hx hb dX6_levelOf_70 (by decide) ?_
            refine lv_goto (tgt := 90) hx hb dX6_levelOf_71 (by decide) ?_
            obtain rfl := o_ret hf
            exact k_iret hx hb hr hP hD hS (Nat.zero_le _) (Nat.zero_le _) hlocks dX6_levelOf_90
        · have hf := o_in c47 hf
          refine lv_iload hx hb dX6_levelOf_50 (lv_at hl 0 rfl) ?_
          refine lv_aload_n hx hb dX6_levelOf_52 rfl (lv_at hl 1 rfl) ?_
          refine lv_aload_n hx hb dX6_levelOf_53 rfl (lv_at hl 1 rfl) ?_
          refine va_get (ci := 6) (v := .int (gI u 9)) (C := RX6) (T := TX6) (N := 26) hx hb hts inlX6 hown hE.1 hP 0 rfl rfl 19 (by decide) (hts _ wB561) (fun _ h9 => h9) rfl dX6_levelOf_54 ?_
          refine lv_iload_n hx hb dX6_levelOf_57 rfl (lv_at hl 2 rfl) ?_
          refine lv_iload_n hx hb dX6_levelOf_58 rfl (lv_at hl 3 rfl) ?_
          obtain ⟨r59, h59r, hf⟩ := o_bs hf
          refine k_goi (va_runV (As := [.int (gI u 9), .int a1, .int a2]) (rest := [.int (0 + r28)]) ⟨hx, hb, hml, hown, hts⟩ (zX6_given l D cy sa q rest H.size u (gI u 9) a1 a2 r59 h59r) (cwV 3 hts (gB_V wB442 wB443 wB444 wB5 wB445) rfl rfl rfl (by decide +kernel) ⟨Nat.le_of_ble_eq_true rfl, Nat.le_of_ble_eq_true rfl⟩) ⟨kP.blind, k_recv hE hP (ci := 6) (q0 := 0) rfl rfl, k_pre hP hD hS hE hA⟩ rfl rfl hl.1 rfl (lv_room (Nat.le_of_ble_eq_true rfl)) dX6_levelOf_59 ⟨Nat.zero_le _, Nat.zero_le _⟩) hD hS hA (fun H locs hP hD hS => ?_)
          refine lv_iadd hx hb dX6_levelOf_62 ?_
          refine lv_istore (lv' := [(4, .int ((0 + r28) + r59)), (0, .ref (q 0)), (1, .int a1), (2, .int a2), (3, .int a3)]) hx hb dX6_levelOf_63 hl (by decide) rfl (fun ls hl => ?_)
          refine lv_iload hx hb dX6_levelOf_65 (lv_at hl 0 rfl) ?_
          refine lv_if_ne (tgt := 74) hx hb dX6_levelOf_67 (by decide) (fun c67 => ?_) (fun c67 => ?_)
          · have hf := o_in c67 hf
            refine lv_iload hx hb dX6_levelOf_74 (lv_at hl 0 rfl) ?_
            refine lv_aload_n hx hb dX6_levelOf_76 rfl (lv_at hl 1 rfl) ?_
            refine va_get (ci := 6) (v := .ref (q 1)) (C := RX6) (T := TX6) (N := 26) hx hb hts inlX6 hown hE.1 hP 0 rfl rfl 0 (by decide) (hts _ wB83) (fun _ h9 => h9) rfl dX6_levelOf_77 ?_
            refine lv_iconst (v := 5) hx hb dX6_levelOf_80 (by decide) ?_
            refine va_iald (f := (gR u 0)) hx hb hE.1 hP 1 0 rfl rfl (k_in (by decide)) dX6_levelOf_81 ?_
            refine lv_icmp_gt (tgt := 89) hx hb dX6_levelOf_82 (by decide) (fun c82 => ?_) (fun c82 => ?_)
            · have hf := o_ip c82 hf
              refine lv_iconst (v := 2) hx hb dX6_levelOf_89 (by decide) ?_
              obtain rfl := o_ret hf
              exact k_iret hx hb hr hP hD hS (Nat.zero_le _) (Nat.zero_le _) hlocks dX6_levelOf_90
            · have hf := o_in c82 hf
              refine lv_iconst (v := 1) hx hb dX6_levelOf_85 (by decide) ?_
              refine lv_goto (tgt := 90) hx hb dX6_levelOf_86 (by decide) ?_
              obtain rfl := o_ret hf
              exact k_iret hx hb hr hP hD hS (Nat.zero_le _) (Nat.zero_le _) hlocks dX6_levelOf_90
          · have hf := o_ip c67 hf
            refine lv_iconst (v := 0) hx hb dX6_levelOf_70 (by decide) ?_
            refine lv_goto (tgt := 90) hx hb dX6_levelOf_71 (by decide) ?_
            obtain rfl := o_ret hf
            exact k_iret hx hb hr hP hD hS (Nat.zero_le _) (Nat.zero_le _) hlocks dX6_levelOf_90
noncomputable def mX6_weighs_s94 (u : KS) (c1 : Int32) (s94 : Int64 × Int32) : Option ((Int64) ⊕ (Int64 × Int32)) :=
  if ((gR u 0) ((1 : Int32).toNatClampNeg)) ≤ s94.2 then
  (some (.inl s94.1))
  else
  (gd (inb (20 + (4 * s94.2)) 200) (if (gI u 5) ≤ ((gR u 0) ((20 + (4 * s94.2)).toNatClampNeg)) then
  (some (.inr (s94.1, (s94.2 + 1))))
  else
  (gd (inb (20 + (4 * s94.2)) 200) (gd (inb ((20 + (4 * s94.2)) + 1) 200) (gd (inb ((20 + (4 * s94.2)) + 2) 200) ((mX6_levelOf u ((gR u 0) ((20 + (4 * s94.2)).toNatClampNeg)) ((gR u 0) (((20 + (4 * s94.2)) + 1).toNatClampNeg)) ((gR u 0) (((20 + (4 * s94.2)) + 2).toNatClampNeg))).bind fun r154 =>
  gd (inb ((20 + (4 * s94.2)) + 3) 200) (if r154 = ((gR u 0) (((20 + (4 * s94.2)) + 3).toNatClampNeg)) then
  (some (.inr ((s94.1 * ((2 * ((gR u 0) ((6 : Int32).toNatClampNeg))).toInt64)), (s94.2 + 1))))
  else
  (some (.inr ((s94.1 * ((10 - ((gR u 0) ((6 : Int32).toNatClampNeg))).toInt64)), (s94.2 + 1)))))))))))
noncomputable def mX6_weighs_s22  (s22 : Int32 × KS) : Option ((KS) ⊕ (Int32 × KS)) :=
  if 2731 ≤ s22.1 then
  (some (.inl s22.2))
  else
  ((mX6_opens s22.2 s22.1).bind fun r31 =>
  if s22.1 = 0 then
  ((lpF (mX6_weighs_s94 r31 s22.1) ((((gR r31 0) ((7 : Int32).toNatClampNeg)).toInt64), 0)).bind fun e94 =>
  gd (inb s22.1 2731) (some (.inr ((s22.1 + 1), (sL (sA r31 0 (vp_updL (gA r31 0) (s22.1.toNatClampNeg) e94)) 0 ((gL r31 0) + e94))))))
  else
  (if 85 ≤ s22.1 then
  ((mX6_weightOf r31 (gI r31 8)).bind fun r76 =>
  (mX6_weightOf r31 (gI r31 9)).bind fun r85 =>
  (lpF (mX6_weighs_s94 r31 s22.1) (((r76.toInt64) * (r85.toInt64)), 0)).bind fun e94 =>
  gd (inb s22.1 2731) (some (.inr ((s22.1 + 1), (sL (sA r31 0 (vp_updL (gA r31 0) (s22.1.toNatClampNeg) e94)) 0 ((gL r31 0) + e94))))))
  else
  ((mX6_weightOf r31 (gI r31 8)).bind fun r63 =>
  (lpF (mX6_weighs_s94 r31 s22.1) ((9 * (r63.toInt64)), 0)).bind fun e94 =>
  gd (inb s22.1 2731) (some (.inr ((s22.1 + 1), (sL (sA r31 0 (vp_updL (gA r31 0) (s22.1.toNatClampNeg) e94)) 0 ((gL r31 0) + e94))))))))
noncomputable def mX6_weighs (u : KS) : Option (Int32 × KS) :=
  (mX6_passes (sL u 0 0) ((gR u 0) ((4 : Int32).toNatClampNeg))).bind fun r12 =>
  if r12.1 = 0 then
  (some (0, r12.2))
  else
  ((lpF mX6_weighs_s22 (0, r12.2)).bind fun e22 =>
  if (lg_cmp (gL e22 0) 0) ≤ 0 then
  (some (0, e22))
  else
  (some (1, e22)))
abbrev rmX6_weighs : Room := { frames := 5, cells := 0, slots := 0, locals := 117 }
set_option maxRecDepth 100000 in
set_option maxHeartbeats 4000000 in
theorem zX6_weighs (l : Launch) (D : va_G) (cy : Nat → ClassId) (sa : Nat → Nat) (q : Nat → Nat) (rest : va_W) (sz : Nat) (u : KS) (res : Int32 × KS) (hf : mX6_weighs u = some res) : kMi l yX6_weighs (wsK yX6_weighs cX6_weighs 7 (some .boolean)) rmX6_weighs D cy sa (WM q cy u ++ rest) sz [.ref (q 0)] res.1 (WM q cy res.2 ++ rest) 0 0 := by
  refine kM_of (Qc := fun A => kQi D A res.1 (WM q cy res.2 ++ rest)) (cc := cX6_weighs) (maxL := 7) (ret := (some .boolean)) (by decide) (Nat.le_of_ble_eq_true rfl) ?_
  intro p e s m below meth c A hx hb hml hr hts hown hlocks hin hA hP hD hS hE hsz ls hl
  have hown : s.vm.findClass RX6 = some m.cls := hown
  obtain ⟨H, hH0⟩ : ∃ H, H = s.heap := ⟨_, rfl⟩
  obtain ⟨locs, hlocs0⟩ : ∃ locs : List Loc, locs = [] := ⟨_, rfl⟩
  have hP : va_P D vwCl (WM q cy u ++ rest) H := by rw [hH0]; exact hP
  have hS : va_S A s.heap H locs := by rw [hH0, hlocs0]; exact hS
  have hl : lv_has ls 7 [(0, .ref (q 0))] := hl
  suffices hgoal : W p l e rmX6_weighs s m ([.ref (q 0)] : List Value).toArray below meth c H locs 0 0 (MQ below (kQi D A res.1 (WM q cy res.2 ++ rest)) ([.ref (q 0)] : List Value).toArray s 0 0 A) (F0 m 0 ls []) by rw [hH0, hlocs0] at hgoal; exact hgoal
  clear hH0 hlocs0
  unfold mX6_weighs at hf
  refine lv_aload_n hx hb dX6_weighs_0 rfl (lv_at hl 0 rfl) ?_
  refine lv_lconst (v := 0) hx hb dX6_weighs_1 (by decide) ?_
  refine va_put (ci := 6) (v := .long 0) (ty := .long) (C := RX6) (T := TX6) (N := 26) hx hb hts inlX6 tyX6 tyX6_ok nmX6 hown hE.1 hP hD hS 0 rfl rfl 21 (by decide) (hts _ wB562) (fun _ h9 => h9) rfl (by decide +kernel) rfl rfl (Nat.le_of_ble_eq_true rfl) dX6_weighs_2 (fun H locs hP hD hS => ?_)
  have hP : va_P D vwCl (WM q cy (sL u 0 0) ++ rest) H := hP
  have hD : va_D A (WM q cy (sL u 0 0) ++ rest) := hD
  refine lv_aload_n hx hb dX6_weighs_5 rfl (lv_at hl 0 rfl) ?_
  refine lv_aload_n hx hb dX6_weighs_6 rfl (lv_at hl 0 rfl) ?_
  refine va_get (ci := 6) (v := .ref (q 1)) (C := RX6) (T := TX6) (N := 26) hx hb hts inlX6 hown hE.1 hP 0 rfl rfl 0 (by decide) (hts _ wB83) (fun _ h9 => h9) rfl dX6_weighs_7 ?_
  refine lv_iconst (v := 4) hx hb dX6_weighs_10 (by decide) ?_
  refine va_iald (f := (gR u 0)) hx hb hE.1 hP 1 0 rfl rfl (k_in (by decide)) dX6_weighs_11 ?_
  obtain ⟨r12, h12r, hf⟩ := o_bs hf
  refine k_goi (va_runV (As := [.int ((gR u 0) ((4 : Int32).toNatClampNeg))]) (rest := []) ⟨hx, hb, hml, hown, hts⟩ (zX6_passes l D cy sa q rest H.size (sL u 0 0) ((gR u 0) ((4 : Int32).toNatClampNeg)) r12 h12r) (cwV 1 hts (gB_V wB386 wB387 wB388 wB5 wB389) rfl rfl rfl (by decide +kernel) ⟨Nat.le_of_ble_eq_true rfl, Nat.le_of_ble_eq_true rfl⟩) ⟨kP.blind, k_recv hE hP (ci := 6) (q0 := 0) rfl rfl, k_pre hP hD hS hE hA⟩ rfl rfl hl.1 rfl (lv_room (Nat.le_of_ble_eq_true rfl)) dX6_weighs_12 ⟨Nat.zero_le _, Nat.zero_le _⟩) hD hS hA (fun H locs hP hD hS => ?_)
  refine lv_if_ne (tgt := 20) hx hb dX6_weighs_15 (by decide) (fun c15 => ?_) (fun c15 => ?_)
  · have hf := o_in c15 hf
    refine lv_iconst (v := 0) hx hb dX6_weighs_20 (by decide) ?_
    refine lv_istore_n (lv' := [(1, .int 0), (0, .ref (q 0))]) hx hb dX6_weighs_21 rfl hl (by decide) rfl (fun ls hl => ?_)
    have L22 : ∀ (n22v : Nat) (s22 : Int32 × KS) (e22 : KS), lpO mX6_weighs_s22 n22v s22 = some e22 → ∀ (H : Heap) (locs : List Loc) (ls : Array Slot), va_P D vwCl (WM q cy s22.2 ++ rest) H → va_D A (WM q cy s22.2 ++ rest) → va_S A s.heap H locs → lv_has ls 7 [(0, .ref (q 0)), (1, .int s22.1)] → (∀ (H : Heap) (locs : List Loc) (ls : Array Slot), va_P D vwCl (WM q cy e22 ++ rest) H → va_D A (WM q cy e22 ++ rest) → va_S A s.heap H locs → lv_has ls 7 [(0, .ref (q 0))] → W p l e rmX6_weighs s m ([.ref (q 0)] : List Value).toArray below meth c H locs 0 0 (MQ below (kQi D A res.1 (WM q cy res.2 ++ rest)) ([.ref (q 0)] : List Value).toArray s 0 0 A) (F0 m 237 ls [])) → W p l e rmX6_weighs s m ([.ref (q 0)] : List Value).toArray below meth c H locs 0 0 (MQ below (kQi D A res.1 (WM q cy res.2 ++ rest)) ([.ref (q 0)] : List Value).toArray s 0 0 A) (F0 m 22 ls []) := by
      intro n22v
      induction n22v with
      | zero => intro s22 e22 h; exact (lpO_z h).elim
      | succ n22v ih22 =>
        intro s22 e22 h22z H locs ls hP hD hS hl K22_0
        obtain ⟨x22, hf, h22z⟩ := lpO_s h22z
        unfold mX6_weighs_s22 at hf
        refine lv_iload_n hx hb dX6_weighs_22 rfl (lv_at hl 1 rfl) ?_
        refine lv_sipush (v := 2731) hx hb dX6_weighs_23 (by decide) ?_
        refine lv_icmp_ge (tgt := 237) hx hb dX6_weighs_26 (by decide) (fun c26 => ?_) (fun c26 => ?_)
        · have hf := o_ip c26 hf
          obtain rfl := o_ret hf
          obtain rfl := lpK_l h22z
          exact K22_0 _ _ _ hP hD hS (lv_sub hl [0] rfl)
        · have hf := o_in c26 hf
          refine lv_aload_n hx hb dX6_weighs_29 rfl (lv_at hl 0 rfl) ?_
          refine lv_iload_n hx hb dX6_weighs_30 rfl (lv_at hl 1 rfl) ?_
          obtain ⟨r31, h31r, hf⟩ := o_bs hf
          refine k_gov (va_runV (As := [.int s22.1]) (rest := []) ⟨hx, hb, hml, hown, hts⟩ (zX6_opens l D cy sa q rest H.size s22.2 s22.1 r31 h31r) (cwV 1 hts (gB_V wB567 wB568 wB569 wB5 wB570) rfl rfl rfl (by decide +kernel) ⟨Nat.le_of_ble_eq_true rfl, Nat.le_of_ble_eq_true rfl⟩) ⟨kP.blind, k_recv hE hP (ci := 6) (q0 := 0) rfl rfl, k_pre hP hD hS hE hA⟩ rfl rfl hl.1 rfl (lv_room (Nat.le_of_ble_eq_true rfl)) dX6_weighs_31 ⟨Nat.zero_le _, Nat.zero_le _⟩) hD hS hA (fun H locs hP hD hS => ?_)
          refine lv_iload_n hx hb dX6_weighs_34 rfl (lv_at hl 1 rfl) ?_
          refine lv_if_ne (tgt := 49) hx hb dX6_weighs_35 (by decide) (fun c35 => ?_) (fun c35 => ?_)
          · have hf := o_in c35 hf
            refine lv_iload_n hx hb dX6_weighs_49 rfl (lv_at hl 1 rfl) ?_
            refine lv_bipush (v := 85) hx hb dX6_weighs_50 (by decide) ?_
            refine lv_icmp_ge (tgt := 71) hx hb dX6_weighs_52 (by decide) (fun c52 => ?_) (fun c52 => ?_)
            · have hf := o_ip c52 hf
              refine lv_aload_n hx hb dX6_weighs_71 rfl (lv_at hl 0 rfl) ?_
              refine lv_aload_n hx hb dX6_weighs_72 rfl (lv_at hl 0 rfl) ?_
              refine va_get (ci := 6) (v := .int (gI r31 8)) (C := RX6) (T := TX6) (N := 26) hx hb hts inlX6 hown hE.1 hP 0 rfl rfl 18 (by decide) (hts _ wB559) (fun _ h9 => h9) rfl dX6_weighs_73 ?_
              obtain ⟨r76, h76r, hf⟩ := o_bs hf
              refine k_goi (va_runV (As := [.int (gI r31 8)]) (rest := []) ⟨hx, hb, hml, hown, hts⟩ (zX6_weightOf l D cy sa q rest H.size r31 (gI r31 8) r76 h76r) (cwV 1 hts (gB_V wB572 wB573 wB574 wB5 wB575) rfl rfl rfl (by decide +kernel) ⟨Nat.le_of_ble_eq_true rfl, Nat.le_of_ble_eq_true rfl⟩) ⟨kP.blind, k_recv hE hP (ci := 6) (q0 := 0) rfl rfl, k_pre hP hD hS hE hA⟩ rfl rfl hl.1 rfl (lv_room (Nat.le_of_ble_eq_true rfl)) dX6_weighs_76 ⟨Nat.zero_le _, Nat.zero_le _⟩) hD hS hA (fun H locs hP hD hS => ?_)
              refine lv_i2l (v := (r76.toInt64)) hx hb dX6_weighs_79 rfl ?_
              refine lv_aload_n hx hb dX6_weighs_80 rfl (lv_at hl 0 rfl) ?_
              refine lv_aload_n hx hb dX6_weighs_81 rfl (lv_at hl 0 rfl) ?_
              refine va_get (ci := 6) (v := .int (gI r31 9)) (C := RX6) (T := TX6) (N := 26) hx hb hts inlX6 hown hE.1 hP 0 rfl rfl 19 (by decide) (hts _ wB561) (fun _ h9 => h9) rfl dX6_weighs_82 ?_
              obtain ⟨r85, h85r, hf⟩ := o_bs hf
              refine k_goi (va_runV (As := [.int (gI r31 9)]) (rest := [.long (r76.toInt64)]) ⟨hx, hb, hml, hown, hts⟩ (zX6_weightOf l D cy sa q rest H.size r31 (gI r31 9) r85 h85r) (cwV 1 hts (gB_V wB572 wB573 wB574 wB5 wB575) rfl rfl rfl (by decide +kernel) ⟨Nat.le_of_ble_eq_true rfl, Nat.le_of_ble_eq_true rfl⟩) ⟨kP.blind, k_recv hE hP (ci := 6) (q0 := 0) rfl rfl, k_pre hP hD hS hE hA⟩ rfl rfl hl.1 rfl (lv_room (Nat.le_of_ble_eq_true rfl)) dX6_weighs_85 ⟨Nat.zero_le _, Nat.zero_le _⟩) hD hS hA (fun H locs hP hD hS => ?_)
              refine lv_i2l (v := (r85.toInt64)) hx hb dX6_weighs_88 rfl ?_
              refine lv_lmul hx hb dX6_weighs_89 ?_
              refine lv_lstore_n (lv' := [(2, .long ((r76.toInt64) * (r85.toInt64))), (0, .ref (q 0)), (1, .int s22.1)]) hx hb dX6_weighs_90 rfl hl (by decide) rfl (fun ls hl => ?_)
              refine lv_iconst (v := 0) hx hb dX6_weighs_91 (by decide) ?_
              refine lv_istore (lv' := [(4, .int 0), (2, .long ((r76.toInt64) * (r85.toInt64))), (0, .ref (q 0)), (1, .int s22.1)]) hx hb dX6_weighs_92 hl (by decide) rfl (fun ls hl => ?_)
              have L94 : ∀ (n94v : Nat) (s94 : Int64 × Int32) (e94 : Int64), lpO (mX6_weighs_s94 r31 s22.1) n94v s94 = some e94 → ∀ (H : Heap) (locs : List Loc) (ls : Array Slot), va_P D vwCl (WM q cy r31 ++ rest) H → va_D A (WM q cy r31 ++ rest) → va_S A s.heap H locs → lv_has ls 7 [(0, .ref (q 0)), (1, .int s22.1), (2, .long s94.1), (4, .int s94.2)] → (∀ (H : Heap) (locs : List Loc) (ls : Array Slot), va_P D vwCl (WM q cy r31 ++ rest) H → va_D A (WM q cy r31 ++ rest) → va_S A s.heap H locs → lv_has ls 7 [(0, .ref (q 0)), (1, .int s22.1), (2, .long e94)] → W p l e rmX6_weighs s m ([.ref (q 0)] : List Value).toArray below meth c H locs 0 0 (MQ below (kQi D A res.1 (WM q cy res.2 ++ rest)) ([.ref (q 0)] : List Value).toArray s 0 0 A) (F0 m 214 ls [])) → W p l e rmX6_weighs s m ([.ref (q 0)] : List Value).toArray below meth c H locs 0 0 (MQ below (kQi D A res.1 (WM q cy res.2 ++ rest)) ([.ref (q 0)] : List Value).toArray s 0 0 A) (F0 m 94 ls []) := by
                intro n94v
                induction n94v with
                | zero => intro s94 e94 h; exact (lpO_z h).elim
                | succ n94v ih94 =>
                  intro s94 e94 h94z H locs ls hP hD hS hl K94_0
                  obtain ⟨x94, hf, h94z⟩ := lpO_s h94z
                  unfold mX6_weighs_s94 at hf
                  refine lv_iload hx hb dX6_weighs_94 (lv_at hl 3 rfl) ?_
                  refine lv_aload_n hx hb dX6_weighs_96 rfl (lv_at hl 0 rfl) ?_
                  refine va_get (ci := 6) (v := .ref (q 1)) (C := RX6) (T := TX6) (N := 26) hx hb hts inlX6 hown hE.1 hP 0 rfl rfl 0 (by decide) (hts _ wB83) (fun _ h9 => h9) rfl dX6_weighs_97 ?_
                  refine lv_iconst (v := 1) hx hb dX6_weighs_100 (by decide) ?_
                  refine va_iald (f := (gR r31 0)) hx hb hE.1 hP 1 0 rfl rfl (k_in (by decide)) dX6_weighs_101 ?_
                  refine lv_icmp_ge (tgt := 214) hx hb dX6_weighs_102 (by decide) (fun c102 => ?_) (fun c102 => ?_)
                  · have hf := o_ip c102 hf
                    obtain rfl := o_ret hf
                    obtain rfl := lpK_l h94z
                    exact K94_0 _ _ _ hP hD hS (lv_sub hl [0, 1, 2] rfl)
                  · have hf := o_in c102 hf
                    refine lv_bipush (v := 20) hx hb dX6_weighs_105 (by decide) ?_
                    refine lv_iconst (v := 4) hx hb dX6_weighs_107 (by decide) ?_
                    refine lv_iload hx hb dX6_weighs_108 (lv_at hl 3 rfl) ?_
                    refine lv_imul hx hb dX6_weighs_110 ?_
                    refine lv_iadd hx hb dX6_weighs_111 ?_
                    refine lv_istore (lv' := [(5, .int (20 + (4 * s94.2))), (0, .ref (q 0)), (1, .int s22.1), (2, .long s94.1), (4, .int s94.2)]) hx hb dX6_weighs_112 hl (by decide) rfl (fun ls hl => ?_)
                    refine lv_aload_n hx hb dX6_weighs_114 rfl (lv_at hl 1 rfl) ?_
                    refine va_get (ci := 6) (v := .ref (q 1)) (C := RX6) (T := TX6) (N := 26) hx hb hts inlX6 hown hE.1 hP 0 rfl rfl 0 (by decide) (hts _ wB83) (fun _ h9 => h9) rfl dX6_weighs_115 ?_
                    refine lv_iload hx hb dX6_weighs_118 (lv_at hl 0 rfl) ?_
                    obtain ⟨hg120, hf⟩ := gd_s hf
                    refine va_iald (f := (gR r31 0)) hx hb hE.1 hP 1 0 rfl rfl hg120 dX6_weighs_120 ?_
                    refine lv_aload_n hx hb dX6_weighs_121 rfl (lv_at hl 1 rfl) ?_
                    refine va_get (ci := 6) (v := .int (gI r31 5)) (C := RX6) (T := TX6) (N := 26) hx hb hts inlX6 hown hE.1 hP 0 rfl rfl 14 (by decide) (hts _ wB289) (fun _ h9 => h9) rfl dX6_weighs_122 ?_
                    refine lv_icmp_ge (tgt := 208) hx hb dX6_weighs_125 (by decide) (fun c125 => ?_) (fun c125 => ?_)
                    · have hf := o_ip c125 hf
                      refine lv_iinc (v := (s94.2 + 1)) (lv' := [(4, .int (s94.2 + 1)), (5, .int (20 + (4 * s94.2))), (0, .ref (q 0)), (1, .int s22.1), (2, .long s94.1)]) hx hb dX6_weighs_208 hl (k := 4) rfl (by rfl) (by decide) rfl (fun ls hl => ?_)
                      refine lv_goto (tgt := 94) hx hb dX6_weighs_211 (by decide) ?_
                      obtain rfl := o_ret hf
                      exact ih94 _ _ (lpK_r h94z) _ _ _ hP hD hS (lv_sub hl [2, 3, 4, 0] rfl) K94_0
                    · have hf := o_in c125 hf
                      refine lv_aload_n hx hb dX6_weighs_128 rfl (lv_at hl 1 rfl) ?_
                      refine lv_aload_n hx hb dX6_weighs_129 rfl (lv_at hl 1 rfl) ?_
                      refine va_get (ci := 6) (v := .ref (q 1)) (C := RX6) (T := TX6) (N := 26) hx hb hts inlX6 hown hE.1 hP 0 rfl rfl 0 (by decide) (hts _ wB83) (fun _ h9 => h9) rfl dX6_weighs_130 ?_
                      refine lv_iload hx hb dX6_weighs_133 (lv_at hl 0 rfl) ?_
                      obtain ⟨hg135, hf⟩ := gd_s hf
                      refine va_iald (f := (gR r31 0)) hx hb hE.1 hP 1 0 rfl rfl hg135 dX6_weighs_135 ?_
                      refine lv_aload_n hx hb dX6_weighs_136 rfl (lv_at hl 1 rfl) ?_
                      refine va_get (ci := 6) (v := .ref (q 1)) (C := RX6) (T := TX6) (N := 26) hx hb hts inlX6 hown hE.1 hP 0 rfl rfl 0 (by decide) (hts _ wB83) (fun _ h9 => h9) rfl dX6_weighs_137 ?_
                      refine lv_iload hx hb dX6_weighs_140 (lv_at hl 0 rfl) ?_
                      refine lv_iconst (v := 1) hx hb dX6_weighs_142 (by decide) ?_
                      refine lv_iadd hx hb dX6_weighs_143 ?_
                      obtain ⟨hg144, hf⟩ := gd_s hf
                      refine va_iald (f := (gR r31 0)) hx hb hE.1 hP 1 0 rfl rfl hg144 dX6_weighs_144 ?_
                      refine lv_aload_n hx hb dX6_weighs_145 rfl (lv_at hl 1 rfl) ?_
                      refine va_get (ci := 6) (v := .ref (q 1)) (C := RX6) (T := TX6) (N := 26) hx hb hts inlX6 hown hE.1 hP 0 rfl rfl 0 (by decide) (hts _ wB83) (fun _ h9 => h9) rfl dX6_weighs_146 ?_
                      refine lv_iload hx hb dX6_weighs_149 (lv_at hl 0 rfl) ?_
                      refine lv_iconst (v := 2) hx hb dX6_weighs_151 (by decide) ?_
                      refine lv_iadd hx hb dX6_weighs_152 ?_
                      obtain ⟨hg153, hf⟩ := gd_s hf
                      refine va_iald (f := (gR r31 0)) hx hb hE.1 hP 1 0 rfl rfl hg153 dX6_weighs_153 ?_
                      obtain ⟨r154, h154r, hf⟩ := o_bs hf
                      refine k_goi (va_runV (As := [.int ((gR r31 0) ((20 + (4 * s94.2)).toNatClampNeg)), .int ((gR r31 0) (((20 + (4 * s94.2)) + 1).toNatClampNeg)), .int ((gR r31 0) (((20 + (4 * s94.2)) + 2).toNatClampNeg))]) (rest := []) ⟨hx, hb, hml, hown, hts⟩ (zX6_levelOf l D cy sa q rest H.size r31 ((gR r31 0) ((20 + (4 * s94.2)).toNatClampNeg)) ((gR r31 0) (((20 + (4 * s94.2)) + 1).toNatClampNeg)) ((gR r31 0) (((20 + (4 * s94.2)) + 2).toNatClampNeg)) r154 h154r) (cwV 3 hts (gB_V wB576 wB577 wB578 wB5 wB579) rfl rfl rfl (by decide +kernel) ⟨Nat.le_of_ble_eq_true rfl, Nat.le_of_ble_eq_true rfl⟩) ⟨kP.blind, k_recv hE hP (ci := 6) (q0 := 0) rfl rfl, k_pre hP hD hS hE hA⟩ rfl rfl hl.1 rfl (lv_room (Nat.le_of_ble_eq_true rfl)) dX6_weighs_154 ⟨Nat.zero_le _, Nat.zero_le _⟩) hD hS hA (fun H locs hP hD hS => ?_)
                      refine lv_aload_n hx hb dX6_weighs_157 rfl (lv_at hl 1 rfl) ?_
                      refine va_get (ci := 6) (v := .ref (q 1)) (C := RX6) (T := TX6) (N := 26) hx hb hts inlX6 hown hE.1 hP 0 rfl rfl 0 (by decide) (hts _ wB83) (fun _ h9 => h9) rfl dX6_weighs_158 ?_
                      refine lv_iload hx hb dX6_weighs_161 (lv_at hl 0 rfl) ?_
                      refine lv_iconst (v := 3) hx hb dX6_weighs_163 (by decide) ?_
                      refine lv_iadd hx hb dX6_weighs_164 ?_
                      obtain ⟨hg165, hf⟩ := gd_s hf
                      refine va_iald (f := (gR r31 0)) hx hb hE.1 hP 1 0 rfl rfl hg165 dX6_weighs_165 ?_
                      refine lv_icmp_ne (tgt := 173) hx hb dX6_weighs_166 (by decide) (fun c166 => ?_) (fun c166 => ?_)
                      · have hf := o_in c166 hf
                        refine lv_iconst (v := 0) hx hb dX6_weighs_173 (by decide) ?_
                        refine lv_istore (lv' := [(6, .int 0), (5, .int (20 + (4 * s94.2))), (0, .ref (q 0)), (1, .int s22.1), (2, .long s94.1), (4, .int s94.2)]) hx hb dX6_weighs_174 hl (by decide) rfl (fun ls hl => ?_)
                        refine lv_lload_n hx hb dX6_weighs_176 rfl (lv_at hl 4 rfl) ?_
                        refine lv_iload hx hb dX6_weighs_177 (lv_at hl 0 rfl) ?_
                        refine lv_if_eq (tgt := 195) hx hb dX6_weighs_179 (by decide) (fun c179 => ?_) (fun c179 => absurd c179 (by decide))
                        refine lv_bipush (v := 10) hx hb dX6_weighs_195 (by decide) ?_
                        refine lv_aload_n hx hb dX6_weighs_197 rfl (lv_at hl 2 rfl) ?_
                        refine va_get (ci := 6) (v := .ref (q 1)) (C := RX6) (T := TX6) (N := 26) hx hb hts inlX6 hown hE.1 hP 0 rfl rfl 0 (by decide) (hts _ wB83) (fun _ h9 => h9) rfl dX6_weighs_198 ?_
                        refine lv_bipush (v := 6) hx hb dX6_weighs_201 (by decide) ?_
                        refine va_iald (f := (gR r31 0)) hx hb hE.1 hP 1 0 rfl rfl (k_in (by decide)) dX6_weighs_203 ?_
                        refine lv_isub hx hb dX6_weighs_204 ?_
                        refine lv_i2l (v := ((10 - ((gR r31 0) ((6 : Int32).toNatClampNeg))).toInt64)) hx hb dX6_weighs_205 rfl ?_
                        refine lv_lmul hx hb dX6_weighs_206 ?_
                        refine lv_lstore_n (lv' := [(2, .long (s94.1 * ((10 - ((gR r31 0) ((6 : Int32).toNatClampNeg))).toInt64))), (6, .int 0), (5, .int (20 + (4 * s94.2))), (0, .ref (q 0)), (1, .int s22.1), (4, .int s94.2)]) hx hb dX6_weighs_207 rfl hl (by decide) rfl (fun ls hl => ?_)
                        refine lv_iinc (v := (s94.2 + 1)) (lv' := [(4, .int (s94.2 + 1)), (2, .long (s94.1 * ((10 - ((gR r31 0) ((6 : Int32).toNatClampNeg))).toInt64))), (6, .int 0), (5, .int (20 + (4 * s94.2))), (0, .ref (q 0)), (1, .int s22.1)]) hx hb dX6_weighs_208 hl (k := 5) rfl (by rfl) (by decide) rfl (fun ls hl => ?_)
                        refine lv_goto (tgt := 94) hx hb dX6_weighs_211 (by decide) ?_
                        obtain rfl := o_ret hf
                        exact ih94 _ _ (lpK_r h94z) _ _ _ hP hD hS (lv_sub hl [4, 5, 1, 0] rfl) K94_0
                      · have hf := o_ip c166 hf
                        refine lv_iconst (v := 1) hx hb dX6_weighs_169 (by decide) ?_
                        refine lv_goto (tgt := 174) hx hb dX6_weighs_170 (by decide) ?_
                        refine lv_istore (lv' := [(6, .int 1), (5, .int (20 + (4 * s94.2))), (0, .ref (q 0)), (1, .int s22.1), (2, .long s94.1), (4, .int s94.2)]) hx hb dX6_weighs_174 hl (by decide) rfl (fun ls hl => ?_)
                        refine lv_lload_n hx hb dX6_weighs_176 rfl (lv_at hl 4 rfl) ?_
                        refine lv_iload hx hb dX6_weighs_177 (lv_at hl 0 rfl) ?_
                        refine lv_if_eq (tgt := 195) hx hb dX6_weighs_179 (by decide) (fun c179 => absurd c179 (by decide)) (fun c179 => ?_)
                        refine lv_iconst (v := 2) hx hb dX6_weighs_182 (by decide) ?_
                        refine lv_aload_n hx hb dX6_weighs_183 rfl (lv_at hl 2 rfl) ?_
                        refine va_get (ci := 6) (v := .ref (q 1)) (C := RX6) (T := TX6) (N := 26) hx hb hts inlX6 hown hE.1 hP 0 rfl rfl 0 (by decide) (hts _ wB83) (fun _ h9 => h9) rfl dX6_weighs_184 ?_
                        refine lv_bipush (v := 6) hx hb dX6_weighs_187 (by decide) ?_
                        refine va_iald (f := (gR r31 0)) hx hb hE.1 hP 1 0 rfl rfl (k_in (by decide)) dX6_weighs_189 ?_
                        refine lv_imul hx hb dX6_weighs_190 ?_
                        refine lv_i2l (v := ((2 * ((gR r31 0) ((6 : Int32).toNatClampNeg))).toInt64)) hx hb dX6_weighs_191 rfl ?_
                        refine lv_goto (tgt := 206) hx hb dX6_weighs_192 (by decide) ?_
                        refine lv_lmul hx hb dX6_weighs_206 ?_
                        refine lv_lstore_n (lv' := [(2, .long (s94.1 * ((2 * ((gR r31 0) ((6 : Int32).toNatClampNeg))).toInt64))), (6, .int 1), (5, .int (20 + (4 * s94.2))), (0, .ref (q 0)), (1, .int s22.1), (4, .int s94.2)]) hx hb dX6_weighs_207 rfl hl (by decide) rfl (fun ls hl => ?_)
                        refine lv_iinc (v := (s94.2 + 1)) (lv' := [(4, .int (s94.2 + 1)), (2, .long (s94.1 * ((2 * ((gR r31 0) ((6 : Int32).toNatClampNeg))).toInt64))), (6, .int 1), (5, .int (20 + (4 * s94.2))), (0, .ref (q 0)), (1, .int s22.1)]) hx hb dX6_weighs_208 hl (k := 5) rfl (by rfl) (by decide) rfl (fun ls hl => ?_)
                        refine lv_goto (tgt := 94) hx hb dX6_weighs_211 (by decide) ?_
                        obtain rfl := o_ret hf
                        exact ih94 _ _ (lpK_r h94z) _ _ _ hP hD hS (lv_sub hl [4, 5, 1, 0] rfl) K94_0
              obtain ⟨e94, h94q, hf⟩ := o_bs hf
              obtain ⟨n94v, h94q⟩ := lpF_ex h94q
              refine L94 n94v _ e94 h94q _ _ _ hP hD hS (lv_sub hl [2, 3, 1, 0] rfl) ?_
              intro H locs ls hP hD hS hl
              refine lv_aload_n hx hb dX6_weighs_214 rfl (lv_at hl 0 rfl) ?_
              refine va_get (ci := 6) (v := .ref (q 11)) (C := RX6) (T := TX6) (N := 26) hx hb hts inlX6 hown hE.1 hP 0 rfl rfl 20 (by decide) (hts _ wB94) (fun _ h9 => h9) rfl dX6_weighs_215 ?_
              refine lv_iload_n hx hb dX6_weighs_218 rfl (lv_at hl 1 rfl) ?_
              refine lv_lload_n hx hb dX6_weighs_219 rfl (lv_at hl 2 rfl) ?_
              obtain ⟨hg220, hf⟩ := gd_s hf
              refine va_last (f := (gA r31 0)) hx hb hE.1 hP hD hS 11 1 rfl rfl hg220 dX6_weighs_220 (fun H locs hP hD hS => ?_)
              have hP : va_P D vwCl (WM q cy (sA r31 0 (vp_updL (gA r31 0) (s22.1.toNatClampNeg) e94)) ++ rest) H := hP
              have hD : va_D A (WM q cy (sA r31 0 (vp_updL (gA r31 0) (s22.1.toNatClampNeg) e94)) ++ rest) := hD
              refine lv_aload_n hx hb dX6_weighs_221 rfl (lv_at hl 0 rfl) ?_
              refine lv_dup hx hb dX6_weighs_222 rfl ?_
              refine va_get (ci := 6) (v := .long (gL r31 0)) (C := RX6) (T := TX6) (N := 26) hx hb hts inlX6 hown hE.1 hP 0 rfl rfl 21 (by decide) (hts _ wB562) (fun _ h9 => h9) rfl dX6_weighs_223 ?_
              refine lv_lload_n hx hb dX6_weighs_226 rfl (lv_at hl 2 rfl) ?_
              refine lv_ladd hx hb dX6_weighs_227 ?_
              refine va_put (ci := 6) (v := .long ((gL r31 0) + e94)) (ty := .long) (C := RX6) (T := TX6) (N := 26) hx hb hts inlX6 tyX6 tyX6_ok nmX6 hown hE.1 hP hD hS 0 rfl rfl 21 (by decide) (hts _ wB562) (fun _ h9 => h9) rfl (by decide +kernel) rfl rfl (Nat.le_of_ble_eq_true rfl) dX6_weighs_228 (fun H locs hP hD hS => ?_)
              have hQ : ∀ (xb : KS) (x0 : (Nat → Int64)) (xn : Int64), (WM q cy (sA xb 0 x0) ++ rest).set 0 (q 0, .inr (6, [.ref (q 1), .ref (q 2), .ref (q 3), .ref (q 4), .int (gI (sA xb 0 x0) 0), .ref (q 5), .ref (q 6), .int (gI (sA xb 0 x0) 1), .int (gI (sA xb 0 x0) 2), .int (gI (sA xb 0 x0) 3), .int (gI (sA xb 0 x0) 4), .ref (q 7), .ref (q 8), .ref (q 9), .int (gI (sA xb 0 x0) 5), .ref (q 10), .int (gI (sA xb 0 x0) 6), .int (gI (sA xb 0 x0) 7), .int (gI (sA xb 0 x0) 8), .int (gI (sA xb 0 x0) 9), .ref (q 11), .long (gL (sA xb 0 x0) 0), .ref (q 12), .ref (q 13), .ref (q 14), .int (gI (sA xb 0 x0) 10)].set 21 (.long xn))) = WM q cy (sL (sA xb 0 x0) 0 xn) ++ rest := fun _ _ _ => rfl
              have hP : va_P D vwCl (WM q cy (sL (sA r31 0 (vp_updL (gA r31 0) (s22.1.toNatClampNeg) e94)) 0 ((gL r31 0) + e94)) ++ rest) H := k_wP (hQ r31 (vp_updL (gA r31 0) (s22.1.toNatClampNeg) e94) ((gL r31 0) + e94)) hP
              have hD : va_D A (WM q cy (sL (sA r31 0 (vp_updL (gA r31 0) (s22.1.toNatClampNeg) e94)) 0 ((gL r31 0) + e94)) ++ rest) := k_wD (hQ r31 (vp_updL (gA r31 0) (s22.1.toNatClampNeg) e94) ((gL r31 0) + e94)) hD
              clear hQ
              refine lv_iinc (v := (s22.1 + 1)) (lv' := [(1, .int (s22.1 + 1)), (0, .ref (q 0)), (2, .long e94)]) hx hb dX6_weighs_231 hl (k := 1) rfl (by rfl) (by decide) rfl (fun ls hl => ?_)
              refine lv_goto (tgt := 22) hx hb dX6_weighs_234 (by decide) ?_
              obtain rfl := o_ret hf
              exact ih22 _ _ (lpK_r h22z) _ _ _ hP hD hS (lv_sub hl [1, 0] rfl) K22_0
            · have hf := o_in c52 hf
              refine lv_ldc2 (v := 9) hx hb hown (hts _ wB292) dX6_weighs_55 ?_
              refine lv_aload_n hx hb dX6_weighs_58 rfl (lv_at hl 0 rfl) ?_
              refine lv_aload_n hx hb dX6_weighs_59 rfl (lv_at hl 0 rfl) ?_
              refine va_get (ci := 6) (v := .int (gI r31 8)) (C := RX6) (T := TX6) (N := 26) hx hb hts inlX6 hown hE.1 hP 0 rfl rfl 18 (by decide) (hts _ wB559) (fun _ h9 => h9) rfl dX6_weighs_60 ?_
              obtain ⟨r63, h63r, hf⟩ := o_bs hf
              refine k_goi (va_runV (As := [.int (gI r31 8)]) (rest := [.long 9]) ⟨hx, hb, hml, hown, hts⟩ (zX6_weightOf l D cy sa q rest H.size r31 (gI r31 8) r63 h63r) (cwV 1 hts (gB_V wB572 wB573 wB574 wB5 wB575) rfl rfl rfl (by decide +kernel) ⟨Nat.le_of_ble_eq_true rfl, Nat.le_of_ble_eq_true rfl⟩) ⟨kP.blind, k_recv hE hP (ci := 6) (q0 := 0) rfl rfl, k_pre hP hD hS hE hA⟩ rfl rfl hl.1 rfl (lv_room (Nat.le_of_ble_eq_true rfl)) dX6_weighs_63 ⟨Nat.zero_le _, Nat.zero_le _⟩) hD hS hA (fun H locs hP hD hS => ?_)
              refine lv_i2l (v := (r63.toInt64)) hx hb dX6_weighs_66 rfl ?_
              refine lv_lmul hx hb dX6_weighs_67 ?_
              refine lv_goto (tgt := 90) hx hb dX6_weighs_68 (by decide) ?_
              refine lv_lstore_n (lv' := [(2, .long (9 * (r63.toInt64))), (0, .ref (q 0)), (1, .int s22.1)]) hx hb dX6_weighs_90 rfl hl (by decide) rfl (fun ls hl => ?_)
              refine lv_iconst (v := 0) hx hb dX6_weighs_91 (by decide) ?_
              refine lv_istore (lv' := [(4, .int 0), (2, .long (9 * (r63.toInt64))), (0, .ref (q 0)), (1, .int s22.1)]) hx hb dX6_weighs_92 hl (by decide) rfl (fun ls hl => ?_)
              have L94 : ∀ (n94v : Nat) (s94 : Int64 × Int32) (e94 : Int64), lpO (mX6_weighs_s94 r31 s22.1) n94v s94 = some e94 → ∀ (H : Heap) (locs : List Loc) (ls : Array Slot), va_P D vwCl (WM q cy r31 ++ rest) H → va_D A (WM q cy r31 ++ rest) → va_S A s.heap H locs → lv_has ls 7 [(0, .ref (q 0)), (1, .int s22.1), (2, .long s94.1), (4, .int s94.2)] → (∀ (H : Heap) (locs : List Loc) (ls : Array Slot), va_P D vwCl (WM q cy r31 ++ rest) H → va_D A (WM q cy r31 ++ rest) → va_S A s.heap H locs → lv_has ls 7 [(0, .ref (q 0)), (1, .int s22.1), (2, .long e94)] → W p l e rmX6_weighs s m ([.ref (q 0)] : List Value).toArray below meth c H locs 0 0 (MQ below (kQi D A res.1 (WM q cy res.2 ++ rest)) ([.ref (q 0)] : List Value).toArray s 0 0 A) (F0 m 214 ls [])) → W p l e rmX6_weighs s m ([.ref (q 0)] : List Value).toArray below meth c H locs 0 0 (MQ below (kQi D A res.1 (WM q cy res.2 ++ rest)) ([.ref (q 0)] : List Value).toArray s 0 0 A) (F0 m 94 ls []) := by
                intro n94v
                induction n94v with
                | zero => intro s94 e94 h; exact (lpO_z h).elim
                | succ n94v ih94 =>
                  intro s94 e94 h94z H locs ls hP hD hS hl K94_0
                  obtain ⟨x94, hf, h94z⟩ := lpO_s h94z
                  unfold mX6_weighs_s94 at hf
                  refine lv_iload hx hb dX6_weighs_94 (lv_at hl 3 rfl) ?_
                  refine lv_aload_n hx hb dX6_weighs_96 rfl (lv_at hl 0 rfl) ?_
                  refine va_get (ci := 6) (v := .ref (q 1)) (C := RX6) (T := TX6) (N := 26) hx hb hts inlX6 hown hE.1 hP 0 rfl rfl 0 (by decide) (hts _ wB83) (fun _ h9 => h9) rfl dX6_weighs_97 ?_
                  refine lv_iconst (v := 1) hx hb dX6_weighs_100 (by decide) ?_
                  refine va_iald (f := (gR r31 0)) hx hb hE.1 hP 1 0 rfl rfl (k_in (by decide)) dX6_weighs_101 ?_
                  refine lv_icmp_ge (tgt := 214) hx hb dX6_weighs_102 (by decide) (fun c102 => ?_) (fun c102 => ?_)
                  · have hf := o_ip c102 hf
                    obtain rfl := o_ret hf
                    obtain rfl := lpK_l h94z
                    exact K94_0 _ _ _ hP hD hS (lv_sub hl [0, 1, 2] rfl)
                  · have hf := o_in c102 hf
                    refine lv_bipush (v := 20) hx hb dX6_weighs_105 (by decide) ?_
                    refine lv_iconst (v := 4) hx hb dX6_weighs_107 (by decide) ?_
                    refine lv_iload hx hb dX6_weighs_108 (lv_at hl 3 rfl) ?_
                    refine lv_imul hx hb dX6_weighs_110 ?_
                    refine lv_iadd hx hb dX6_weighs_111 ?_
                    refine lv_istore (lv' := [(5, .int (20 + (4 * s94.2))), (0, .ref (q 0)), (1, .int s22.1), (2, .long s94.1), (4, .int s94.2)]) hx hb dX6_weighs_112 hl (by decide) rfl (fun ls hl => ?_)
                    refine lv_aload_n hx hb dX6_weighs_114 rfl (lv_at hl 1 rfl) ?_
                    refine va_get (ci := 6) (v := .ref (q 1)) (C := RX6) (T := TX6) (N := 26) hx hb hts inlX6 hown hE.1 hP 0 rfl rfl 0 (by decide) (hts _ wB83) (fun _ h9 => h9) rfl dX6_weighs_115 ?_
                    refine lv_iload hx hb dX6_weighs_118 (lv_at hl 0 rfl) ?_
                    obtain ⟨hg120, hf⟩ := gd_s hf
                    refine va_iald (f := (gR r31 0)) hx hb hE.1 hP 1 0 rfl rfl hg120 dX6_weighs_120 ?_
                    refine lv_aload_n hx hb dX6_weighs_121 rfl (lv_at hl 1 rfl) ?_
                    refine va_get (ci := 6) (v := .int (gI r31 5)) (C := RX6) (T := TX6) (N := 26) hx hb hts inlX6 hown hE.1 hP 0 rfl rfl 14 (by decide) (hts _ wB289) (fun _ h9 => h9) rfl dX6_weighs_122 ?_
                    refine lv_icmp_ge (tgt := 208) hx hb dX6_weighs_125 (by decide) (fun c125 => ?_) (fun c125 => ?_)
                    · have hf := o_ip c125 hf
                      refine lv_iinc (v := (s94.2 + 1)) (lv' := [(4, .int (s94.2 + 1)), (5, .int (20 + (4 * s94.2))), (0, .ref (q 0)), (1, .int s22.1), (2, .long s94.1)]) hx hb dX6_weighs_208 hl (k := 4) rfl (by rfl) (by decide) rfl (fun ls hl => ?_)
                      refine lv_goto (tgt := 94) hx hb dX6_weighs_211 (by decide) ?_
                      obtain rfl := o_ret hf
                      exact ih94 _ _ (lpK_r h94z) _ _ _ hP hD hS (lv_sub hl [2, 3, 4, 0] rfl) K94_0
                    · have hf := o_in c125 hf
                      refine lv_aload_n hx hb dX6_weighs_128 rfl (lv_at hl 1 rfl) ?_
                      refine lv_aload_n hx hb dX6_weighs_129 rfl (lv_at hl 1 rfl) ?_
                      refine va_get (ci := 6) (v := .ref (q 1)) (C := RX6) (T := TX6) (N := 26) hx hb hts inlX6 hown hE.1 hP 0 rfl rfl 0 (by decide) (hts _ wB83) (fun _ h9 => h9) rfl dX6_weighs_130 ?_
                      refine lv_iload hx hb dX6_weighs_133 (lv_at hl 0 rfl) ?_
                      obtain ⟨hg135, hf⟩ := gd_s hf
                      refine va_iald (f := (gR r31 0)) hx hb hE.1 hP 1 0 rfl rfl hg135 dX6_weighs_135 ?_
                      refine lv_aload_n hx hb dX6_weighs_136 rfl (lv_at hl 1 rfl) ?_
                      refine va_get (ci := 6) (v := .ref (q 1)) (C := RX6) (T := TX6) (N := 26) hx hb hts inlX6 hown hE.1 hP 0 rfl rfl 0 (by decide) (hts _ wB83) (fun _ h9 => h9) rfl dX6_weighs_137 ?_
                      refine lv_iload hx hb dX6_weighs_140 (lv_at hl 0 rfl) ?_
                      refine lv_iconst (v := 1) hx hb dX6_weighs_142 (by decide) ?_
                      refine lv_iadd hx hb dX6_weighs_143 ?_
                      obtain ⟨hg144, hf⟩ := gd_s hf
                      refine va_iald (f := (gR r31 0)) hx hb hE.1 hP 1 0 rfl rfl hg144 dX6_weighs_144 ?_
                      refine lv_aload_n hx hb dX6_weighs_145 rfl (lv_at hl 1 rfl) ?_
                      refine va_get (ci := 6) (v := .ref (q 1)) (C := RX6) (T := TX6) (N := 26) hx hb hts inlX6 hown hE.1 hP 0 rfl rfl 0 (by decide) (hts _ wB83) (fun _ h9 => h9) rfl dX6_weighs_146 ?_
                      refine lv_iload hx hb dX6_weighs_149 (lv_at hl 0 rfl) ?_
                      refine lv_iconst (v := 2) hx hb dX6_weighs_151 (by decide) ?_
                      refine lv_iadd hx hb dX6_weighs_152 ?_
                      obtain ⟨hg153, hf⟩ := gd_s hf
                      refine va_iald (f := (gR r31 0)) hx hb hE.1 hP 1 0 rfl rfl hg153 dX6_weighs_153 ?_
                      obtain ⟨r154, h154r, hf⟩ := o_bs hf
                      refine k_goi (va_runV (As := [.int ((gR r31 0) ((20 + (4 * s94.2)).toNatClampNeg)), .int ((gR r31 0) (((20 + (4 * s94.2)) + 1).toNatClampNeg)), .int ((gR r31 0) (((20 + (4 * s94.2)) + 2).toNatClampNeg))]) (rest := []) ⟨hx, hb, hml, hown, hts⟩ (zX6_levelOf l D cy sa q rest H.size r31 ((gR r31 0) ((20 + (4 * s94.2)).toNatClampNeg)) ((gR r31 0) (((20 + (4 * s94.2)) + 1).toNatClampNeg)) ((gR r31 0) (((20 + (4 * s94.2)) + 2).toNatClampNeg)) r154 h154r) (cwV 3 hts (gB_V wB576 wB577 wB578 wB5 wB579) rfl rfl rfl (by decide +kernel) ⟨Nat.le_of_ble_eq_true rfl, Nat.le_of_ble_eq_true rfl⟩) ⟨kP.blind, k_recv hE hP (ci := 6) (q0 := 0) rfl rfl, k_pre hP hD hS hE hA⟩ rfl rfl hl.1 rfl (lv_room (Nat.le_of_ble_eq_true rfl)) dX6_weighs_154 ⟨Nat.zero_le _, Nat.zero_le _⟩) hD hS hA (fun H locs hP hD hS => ?_)
                      refine lv_aload_n hx hb dX6_weighs_157 rfl (lv_at hl 1 rfl) ?_
                      refine va_get (ci := 6) (v := .ref (q 1)) (C := RX6) (T := TX6) (N := 26) hx hb hts inlX6 hown hE.1 hP 0 rfl rfl 0 (by decide) (hts _ wB83) (fun _ h9 => h9) rfl dX6_weighs_158 ?_
                      refine lv_iload hx hb dX6_weighs_161 (lv_at hl 0 rfl) ?_
                      refine lv_iconst (v := 3) hx hb dX6_weighs_163 (by decide) ?_
                      refine lv_iadd hx hb dX6_weighs_164 ?_
                      obtain ⟨hg165, hf⟩ := gd_s hf
                      refine va_iald (f := (gR r31 0)) hx hb hE.1 hP 1 0 rfl rfl hg165 dX6_weighs_165 ?_
                      refine lv_icmp_ne (tgt := 173) hx hb dX6_weighs_166 (by decide) (fun c166 => ?_) (fun c166 => ?_)
                      · have hf := o_in c166 hf
                        refine lv_iconst (v := 0) hx hb dX6_weighs_173 (by decide) ?_
                        refine lv_istore (lv' := [(6, .int 0), (5, .int (20 + (4 * s94.2))), (0, .ref (q 0)), (1, .int s22.1), (2, .long s94.1), (4, .int s94.2)]) hx hb dX6_weighs_174 hl (by decide) rfl (fun ls hl => ?_)
                        refine lv_lload_n hx hb dX6_weighs_176 rfl (lv_at hl 4 rfl) ?_
                        refine lv_iload hx hb dX6_weighs_177 (lv_at hl 0 rfl) ?_
                        refine lv_if_eq (tgt := 195) hx hb dX6_weighs_179 (by decide) (fun c179 => ?_) (fun c179 => absurd c179 (by decide))
                        refine lv_bipush (v := 10) hx hb dX6_weighs_195 (by decide) ?_
                        refine lv_aload_n hx hb dX6_weighs_197 rfl (lv_at hl 2 rfl) ?_
                        refine va_get (ci := 6) (v := .ref (q 1)) (C := RX6) (T := TX6) (N := 26) hx hb hts inlX6 hown hE.1 hP 0 rfl rfl 0 (by decide) (hts _ wB83) (fun _ h9 => h9) rfl dX6_weighs_198 ?_
                        refine lv_bipush (v := 6) hx hb dX6_weighs_201 (by decide) ?_
                        refine va_iald (f := (gR r31 0)) hx hb hE.1 hP 1 0 rfl rfl (k_in (by decide)) dX6_weighs_203 ?_
                        refine lv_isub hx hb dX6_weighs_204 ?_
                        refine lv_i2l (v := ((10 - ((gR r31 0) ((6 : Int32).toNatClampNeg))).toInt64)) hx hb dX6_weighs_205 rfl ?_
                        refine lv_lmul hx hb dX6_weighs_206 ?_
                        refine lv_lstore_n (lv' := [(2, .long (s94.1 * ((10 - ((gR r31 0) ((6 : Int32).toNatClampNeg))).toInt64))), (6, .int 0), (5, .int (20 + (4 * s94.2))), (0, .ref (q 0)), (1, .int s22.1), (4, .int s94.2)]) hx hb dX6_weighs_207 rfl hl (by decide) rfl (fun ls hl => ?_)
                        refine lv_iinc (v := (s94.2 + 1)) (lv' := [(4, .int (s94.2 + 1)), (2, .long (s94.1 * ((10 - ((gR r31 0) ((6 : Int32).toNatClampNeg))).toInt64))), (6, .int 0), (5, .int (20 + (4 * s94.2))), (0, .ref (q 0)), (1, .int s22.1)]) hx hb dX6_weighs_208 hl (k := 5) rfl (by rfl) (by decide) rfl (fun ls hl => ?_)
                        refine lv_goto (tgt := 94) hx hb dX6_weighs_211 (by decide) ?_
                        obtain rfl := o_ret hf
                        exact ih94 _ _ (lpK_r h94z) _ _ _ hP hD hS (lv_sub hl [4, 5, 1, 0] rfl) K94_0
                      · have hf := o_ip c166 hf
                        refine lv_iconst (v := 1) hx hb dX6_weighs_169 (by decide) ?_
                        refine lv_goto (tgt := 174) hx hb dX6_weighs_170 (by decide) ?_
                        refine lv_istore (lv' := [(6, .int 1), (5, .int (20 + (4 * s94.2))), (0, .ref (q 0)), (1, .int s22.1), (2, .long s94.1), (4, .int s94.2)]) hx hb dX6_weighs_174 hl (by decide) rfl (fun ls hl => ?_)
                        refine lv_lload_n hx hb dX6_weighs_176 rfl (lv_at hl 4 rfl) ?_
                        refine lv_iload hx hb dX6_weighs_177 (lv_at hl 0 rfl) ?_
                        refine lv_if_eq (tgt := 195) hx hb dX6_weighs_179 (by decide) (fun c179 => absurd c179 (by decide)) (fun c179 => ?_)
                        refine lv_iconst (v := 2) hx hb dX6_weighs_182 (by decide) ?_
                        refine lv_aload_n hx hb dX6_weighs_183 rfl (lv_at hl 2 rfl) ?_
                        refine va_get (ci := 6) (v := .ref (q 1)) (C := RX6) (T := TX6) (N := 26) hx hb hts inlX6 hown hE.1 hP 0 rfl rfl 0 (by decide) (hts _ wB83) (fun _ h9 => h9) rfl dX6_weighs_184 ?_
                        refine lv_bipush (v := 6) hx hb dX6_weighs_187 (by decide) ?_
                        refine va_iald (f := (gR r31 0)) hx hb hE.1 hP 1 0 rfl rfl (k_in (by decide)) dX6_weighs_189 ?_
                        refine lv_imul hx hb dX6_weighs_190 ?_
                        refine lv_i2l (v := ((2 * ((gR r31 0) ((6 : Int32).toNatClampNeg))).toInt64)) hx hb dX6_weighs_191 rfl ?_
                        refine lv_goto (tgt := 206) hx hb dX6_weighs_192 (by decide) ?_
                        refine lv_lmul hx hb dX6_weighs_206 ?_
                        refine lv_lstore_n (lv' := [(2, .long (s94.1 * ((2 * ((gR r31 0) ((6 : Int32).toNatClampNeg))).toInt64))), (6, .int 1), (5, .int (20 + (4 * s94.2))), (0, .ref (q 0)), (1, .int s22.1), (4, .int s94.2)]) hx hb dX6_weighs_207 rfl hl (by decide) rfl (fun ls hl => ?_)
                        refine lv_iinc (v := (s94.2 + 1)) (lv' := [(4, .int (s94.2 + 1)), (2, .long (s94.1 * ((2 * ((gR r31 0) ((6 : Int32).toNatClampNeg))).toInt64))), (6, .int 1), (5, .int (20 + (4 * s94.2))), (0, .ref (q 0)), (1, .int s22.1)]) hx hb dX6_weighs_208 hl (k := 5) rfl (by rfl) (by decide) rfl (fun ls hl => ?_)
                        refine lv_goto (tgt := 94) hx hb dX6_weighs_211 (by decide) ?_
                        obtain rfl := o_ret hf
                        exact ih94 _ _ (lpK_r h94z) _ _ _ hP hD hS (lv_sub hl [4, 5, 1, 0] rfl) K94_0
              obtain ⟨e94, h94q, hf⟩ := o_bs hf
              obtain ⟨n94v, h94q⟩ := lpF_ex h94q
              refine L94 n94v _ e94 h94q _ _ _ hP hD hS (lv_sub hl [2, 3, 1, 0] rfl) ?_
              intro H locs ls hP hD hS hl
              refine lv_aload_n hx hb dX6_weighs_214 rfl (lv_at hl 0 rfl) ?_
              refine va_get (ci := 6) (v := .ref (q 11)) (C := RX6) (T := TX6) (N := 26) hx hb hts inlX6 hown hE.1 hP 0 rfl rfl 20 (by decide) (hts _ wB94) (fun _ h9 => h9) rfl dX6_weighs_215 ?_
              refine lv_iload_n hx hb dX6_weighs_218 rfl (lv_at hl 1 rfl) ?_
              refine lv_lload_n hx hb dX6_weighs_219 rfl (lv_at hl 2 rfl) ?_
              obtain ⟨hg220, hf⟩ := gd_s hf
              refine va_last (f := (gA r31 0)) hx hb hE.1 hP hD hS 11 1 rfl rfl hg220 dX6_weighs_220 (fun H locs hP hD hS => ?_)
              have hP : va_P D vwCl (WM q cy (sA r31 0 (vp_updL (gA r31 0) (s22.1.toNatClampNeg) e94)) ++ rest) H := hP
              have hD : va_D A (WM q cy (sA r31 0 (vp_updL (gA r31 0) (s22.1.toNatClampNeg) e94)) ++ rest) := hD
              refine lv_aload_n hx hb dX6_weighs_221 rfl (lv_at hl 0 rfl) ?_
              refine lv_dup hx hb dX6_weighs_222 rfl ?_
              refine va_get (ci := 6) (v := .long (gL r31 0)) (C := RX6) (T := TX6) (N := 26) hx hb hts inlX6 hown hE.1 hP 0 rfl rfl 21 (by decide) (hts _ wB562) (fun _ h9 => h9) rfl dX6_weighs_223 ?_
              refine lv_lload_n hx hb dX6_weighs_226 rfl (lv_at hl 2 rfl) ?_
              refine lv_ladd hx hb dX6_weighs_227 ?_
              refine va_put (ci := 6) (v := .long ((gL r31 0) + e94)) (ty := .long) (C := RX6) (T := TX6) (N := 26) hx hb hts inlX6 tyX6 tyX6_ok nmX6 hown hE.1 hP hD hS 0 rfl rfl 21 (by decide) (hts _ wB562) (fun _ h9 => h9) rfl (by decide +kernel) rfl rfl (Nat.le_of_ble_eq_true rfl) dX6_weighs_228 (fun H locs hP hD hS => ?_)
              have hQ : ∀ (xb : KS) (x0 : (Nat → Int64)) (xn : Int64), (WM q cy (sA xb 0 x0) ++ rest).set 0 (q 0, .inr (6, [.ref (q 1), .ref (q 2), .ref (q 3), .ref (q 4), .int (gI (sA xb 0 x0) 0), .ref (q 5), .ref (q 6), .int (gI (sA xb 0 x0) 1), .int (gI (sA xb 0 x0) 2), .int (gI (sA xb 0 x0) 3), .int (gI (sA xb 0 x0) 4), .ref (q 7), .ref (q 8), .ref (q 9), .int (gI (sA xb 0 x0) 5), .ref (q 10), .int (gI (sA xb 0 x0) 6), .int (gI (sA xb 0 x0) 7), .int (gI (sA xb 0 x0) 8), .int (gI (sA xb 0 x0) 9), .ref (q 11), .long (gL (sA xb 0 x0) 0), .ref (q 12), .ref (q 13), .ref (q 14), .int (gI (sA xb 0 x0) 10)].set 21 (.long xn))) = WM q cy (sL (sA xb 0 x0) 0 xn) ++ rest := fun _ _ _ => rfl
              have hP : va_P D vwCl (WM q cy (sL (sA r31 0 (vp_updL (gA r31 0) (s22.1.toNatClampNeg) e94)) 0 ((gL r31 0) + e94)) ++ rest) H := k_wP (hQ r31 (vp_updL (gA r31 0) (s22.1.toNatClampNeg) e94) ((gL r31 0) + e94)) hP
              have hD : va_D A (WM q cy (sL (sA r31 0 (vp_updL (gA r31 0) (s22.1.toNatClampNeg) e94)) 0 ((gL r31 0) + e94)) ++ rest) := k_wD (hQ r31 (vp_updL (gA r31 0) (s22.1.toNatClampNeg) e94) ((gL r31 0) + e94)) hD
              clear hQ
              refine lv_iinc (v := (s22.1 + 1)) (lv' := [(1, .int (s22.1 + 1)), (0, .ref (q 0)), (2, .long e94)]) hx hb dX6_weighs_231 hl (k := 1) rfl (by rfl) (by decide) rfl (fun ls hl => ?_)
              refine lv_goto (tgt := 22) hx hb dX6_weighs_234 (by decide) ?_
              obtain rfl := o_ret hf
              exact ih22 _ _ (lpK_r h22z) _ _ _ hP hD hS (lv_sub hl [1, 0] rfl) K22_0
          · have hf := o_ip c35 hf
            refine lv_aload_n hx hb dX6_weighs_38 rfl (lv_at hl 0 rfl) ?_
            refine va_get (ci := 6) (v := .ref (q 1)) (C := RX6) (T := TX6) (N := 26) hx hb hts inlX6 hown hE.1 hP 0 rfl rfl 0 (by decide) (hts _ wB83) (fun _ h9 => h9) rfl dX6_weighs_39 ?_
            refine lv_bipush (v := 7) hx hb dX6_weighs_42 (by decide) ?_
            refine va_iald (f := (gR r31 0)) hx hb hE.1 hP 1 0 rfl rfl (k_in (by decide)) dX6_weighs_44 ?_
            refine lv_i2l (v := (((gR r31 0) ((7 : Int32).toNatClampNeg)).toInt64)) hx hb dX6_weighs_45 rfl ?_
            refine lv_goto (tgt := 90) hx hb dX6_weighs_46 (by decide) ?_
            refine lv_lstore_n (lv' := [(2, .long (((gR r31 0) ((7 : Int32).toNatClampNeg)).toInt64)), (0, .ref (q 0)), (1, .int s22.1)]) hx hb dX6_weighs_90 rfl hl (by decide) rfl (fun ls hl => ?_)
            refine lv_iconst (v := 0) hx hb dX6_weighs_91 (by decide) ?_
            refine lv_istore (lv' := [(4, .int 0), (2, .long (((gR r31 0) ((7 : Int32).toNatClampNeg)).toInt64)), (0, .ref (q 0)), (1, .int s22.1)]) hx hb dX6_weighs_92 hl (by decide) rfl (fun ls hl => ?_)
            have L94 : ∀ (n94v : Nat) (s94 : Int64 × Int32) (e94 : Int64), lpO (mX6_weighs_s94 r31 s22.1) n94v s94 = some e94 → ∀ (H : Heap) (locs : List Loc) (ls : Array Slot), va_P D vwCl (WM q cy r31 ++ rest) H → va_D A (WM q cy r31 ++ rest) → va_S A s.heap H locs → lv_has ls 7 [(0, .ref (q 0)), (1, .int s22.1), (2, .long s94.1), (4, .int s94.2)] → (∀ (H : Heap) (locs : List Loc) (ls : Array Slot), va_P D vwCl (WM q cy r31 ++ rest) H → va_D A (WM q cy r31 ++ rest) → va_S A s.heap H locs → lv_has ls 7 [(0, .ref (q 0)), (1, .int s22.1), (2, .long e94)] → W p l e rmX6_weighs s m ([.ref (q 0)] : List Value).toArray below meth c H locs 0 0 (MQ below (kQi D A res.1 (WM q cy res.2 ++ rest)) ([.ref (q 0)] : List Value).toArray s 0 0 A) (F0 m 214 ls [])) → W p l e rmX6_weighs s m ([.ref (q 0)] : List Value).toArray below meth c H locs 0 0 (MQ below (kQi D A res.1 (WM q cy res.2 ++ rest)) ([.ref (q 0)] : List Value).toArray s 0 0 A) (F0 m 94 ls []) := by
              intro n94v
              induction n94v with
              | zero => intro s94 e94 h; exact (lpO_z h).elim
              | succ n94v ih94 =>
                intro s94 e94 h94z H locs ls hP hD hS hl K94_0
                obtain ⟨x94, hf, h94z⟩ := lpO_s h94z
                unfold mX6_weighs_s94 at hf
                refine lv_iload hx hb dX6_weighs_94 (lv_at hl 3 rfl) ?_
                refine lv_aload_n hx hb dX6_weighs_96 rfl (lv_at hl 0 rfl) ?_
                refine va_get (ci := 6) (v := .ref (q 1)) (C := RX6) (T := TX6) (N := 26) hx hb hts inlX6 hown hE.1 hP 0 rfl rfl 0 (by decide) (hts _ wB83) (fun _ h9 => h9) rfl dX6_weighs_97 ?_
                refine lv_iconst (v := 1) hx hb dX6_weighs_100 (by decide) ?_
                refine va_iald (f := (gR r31 0)) hx hb hE.1 hP 1 0 rfl rfl (k_in (by decide)) dX6_weighs_101 ?_
                refine lv_icmp_ge (tgt := 214) hx hb dX6_weighs_102 (by decide) (fun c102 => ?_) (fun c102 => ?_)
                · have hf := o_ip c102 hf
                  obtain rfl := o_ret hf
                  obtain rfl := lpK_l h94z
                  exact K94_0 _ _ _ hP hD hS (lv_sub hl [0, 1, 2] rfl)
                · have hf := o_in c102 hf
                  refine lv_bipush (v := 20) hx hb dX6_weighs_105 (by decide) ?_
                  refine lv_iconst (v := 4) hx hb dX6_weighs_107 (by decide) ?_
                  refine lv_iload hx hb dX6_weighs_108 (lv_at hl 3 rfl) ?_
                  refine lv_imul hx hb dX6_weighs_110 ?_
                  refine lv_iadd hx hb dX6_weighs_111 ?_
                  refine lv_istore (lv' := [(5, .int (20 + (4 * s94.2))), (0, .ref (q 0)), (1, .int s22.1), (2, .long s94.1), (4, .int s94.2)]) hx hb dX6_weighs_112 hl (by decide) rfl (fun ls hl => ?_)
                  refine lv_aload_n hx hb dX6_weighs_114 rfl (lv_at hl 1 rfl) ?_
                  refine va_get (ci := 6) (v := .ref (q 1)) (C := RX6) (T := TX6) (N := 26) hx hb hts inlX6 hown hE.1 hP 0 rfl rfl 0 (by decide) (hts _ wB83) (fun _ h9 => h9) rfl dX6_weighs_115 ?_
                  refine lv_iload hx hb dX6_weighs_118 (lv_at hl 0 rfl) ?_
                  obtain ⟨hg120, hf⟩ := gd_s hf
                  refine va_iald (f := (gR r31 0)) hx hb hE.1 hP 1 0 rfl rfl hg120 dX6_weighs_120 ?_
                  refine lv_aload_n hx hb dX6_weighs_121 rfl (lv_at hl 1 rfl) ?_
                  refine va_get (ci := 6) (v := .int (gI r31 5)) (C := RX6) (T := TX6) (N := 26) hx hb hts inlX6 hown hE.1 hP 0 rfl rfl 14 (by decide) (hts _ wB289) (fun _ h9 => h9) rfl dX6_weighs_122 ?_
                  refine lv_icmp_ge (tgt := 208) hx hb dX6_weighs_125 (by decide) (fun c125 => ?_) (fun c125 => ?_)
                  · have hf := o_ip c125 hf
                    refine lv_iinc (v := (s94.2 + 1)) (lv' := [(4, .int (s94.2 + 1)), (5, .int (20 + (4 * s94.2))), (0, .ref (q 0)), (1, .int s22.1), (2, .long s94.1)]) hx hb dX6_weighs_208 hl (k := 4) rfl (by rfl) (by decide) rfl (fun ls hl => ?_)
                    refine lv_goto (tgt := 94) hx hb dX6_weighs_211 (by decide) ?_
                    obtain rfl := o_ret hf
                    exact ih94 _ _ (lpK_r h94z) _ _ _ hP hD hS (lv_sub hl [2, 3, 4, 0] rfl) K94_0
                  · have hf := o_in c125 hf
                    refine lv_aload_n hx hb dX6_weighs_128 rfl (lv_at hl 1 rfl) ?_
                    refine lv_aload_n hx hb dX6_weighs_129 rfl (lv_at hl 1 rfl) ?_
                    refine va_get (ci := 6) (v := .ref (q 1)) (C := RX6) (T := TX6) (N := 26) hx hb hts inlX6 hown hE.1 hP 0 rfl rfl 0 (by decide) (hts _ wB83) (fun _ h9 => h9) rfl dX6_weighs_130 ?_
                    refine lv_iload hx hb dX6_weighs_133 (lv_at hl 0 rfl) ?_
                    obtain ⟨hg135, hf⟩ := gd_s hf
                    refine va_iald (f := (gR r31 0)) hx hb hE.1 hP 1 0 rfl rfl hg135 dX6_weighs_135 ?_
                    refine lv_aload_n hx hb dX6_weighs_136 rfl (lv_at hl 1 rfl) ?_
                    refine va_get (ci := 6) (v := .ref (q 1)) (C := RX6) (T := TX6) (N := 26) hx hb hts inlX6 hown hE.1 hP 0 rfl rfl 0 (by decide) (hts _ wB83) (fun _ h9 => h9) rfl dX6_weighs_137 ?_
                    refine lv_iload hx hb dX6_weighs_140 (lv_at hl 0 rfl) ?_
                    refine lv_iconst (v := 1) hx hb dX6_weighs_142 (by decide) ?_
                    refine lv_iadd hx hb dX6_weighs_143 ?_
                    obtain ⟨hg144, hf⟩ := gd_s hf
                    refine va_iald (f := (gR r31 0)) hx hb hE.1 hP 1 0 rfl rfl hg144 dX6_weighs_144 ?_
                    refine lv_aload_n hx hb dX6_weighs_145 rfl (lv_at hl 1 rfl) ?_
                    refine va_get (ci := 6) (v := .ref (q 1)) (C := RX6) (T := TX6) (N := 26) hx hb hts inlX6 hown hE.1 hP 0 rfl rfl 0 (by decide) (hts _ wB83) (fun _ h9 => h9) rfl dX6_weighs_146 ?_
                    refine lv_iload hx hb dX6_weighs_149 (lv_at hl 0 rfl) ?_
                    refine lv_iconst (v := 2) hx hb dX6_weighs_151 (by decide) ?_
                    refine lv_iadd hx hb dX6_weighs_152 ?_
                    obtain ⟨hg153, hf⟩ := gd_s hf
                    refine va_iald (f := (gR r31 0)) hx hb hE.1 hP 1 0 rfl rfl hg153 dX6_weighs_153 ?_
                    obtain ⟨r154, h154r, hf⟩ := o_bs hf
                    refine k_goi (va_runV (As := [.int ((gR r31 0) ((20 + (4 * s94.2)).toNatClampNeg)), .int ((gR r31 0) (((20 + (4 * s94.2)) + 1).toNatClampNeg)), .int ((gR r31 0) (((20 + (4 * s94.2)) + 2).toNatClampNeg))]) (rest := []) ⟨hx, hb, hml, hown, hts⟩ (zX6_levelOf l D cy sa q rest H.size r31 ((gR r31 0) ((20 + (4 * s94.2)).toNatClampNeg)) ((gR r31 0) (((20 + (4 * s94.2)) + 1).toNatClampNeg)) ((gR r31 0) (((20 + (4 * s94.2)) + 2).toNatClampNeg)) r154 h154r) (cwV 3 hts (gB_V wB576 wB577 wB578 wB5 wB579) rfl rfl rfl (by decide +kernel) ⟨Nat.le_of_ble_eq_true rfl, Nat.le_of_ble_eq_true rfl⟩) ⟨kP.blind, k_recv hE hP (ci := 6) (q0 := 0) rfl rfl, k_pre hP hD hS hE hA⟩ rfl rfl hl.1 rfl (lv_room (Nat.le_of_ble_eq_true rfl)) dX6_weighs_154 ⟨Nat.zero_le _, Nat.zero_le _⟩) hD hS hA (fun H locs hP hD hS => ?_)
                    refine lv_aload_n hx hb dX6_weighs_157 rfl (lv_at hl 1 rfl) ?_
                    refine va_get (ci := 6) (v := .ref (q 1)) (C := RX6) (T := TX6) (N := 26) hx hb hts inlX6 hown hE.1 hP 0 rfl rfl 0 (by decide) (hts _ wB83) (fun _ h9 => h9) rfl dX6_weighs_158 ?_
                    refine lv_iload hx hb dX6_weighs_161 (lv_at hl 0 rfl) ?_
                    refine lv_iconst (v := 3) hx hb dX6_weighs_163 (by decide) ?_
                    refine lv_iadd hx hb dX6_weighs_164 ?_
                    obtain ⟨hg165, hf⟩ := gd_s hf
                    refine va_iald (f := (gR r31 0)) hx hb hE.1 hP 1 0 rfl rfl hg165 dX6_weighs_165 ?_
                    refine lv_icmp_ne (tgt := 173) hx hb dX6_weighs_166 (by decide) (fun c166 => ?_) (fun c166 => ?_)
                    · have hf := o_in c166 hf
                      refine lv_iconst (v := 0) hx hb dX6_weighs_173 (by decide) ?_
                      refine lv_istore (lv' := [(6, .int 0), (5, .int (20 + (4 * s94.2))), (0, .ref (q 0)), (1, .int s22.1), (2, .long s94.1), (4, .int s94.2)]) hx hb dX6_weighs_174 hl (by decide) rfl (fun ls hl => ?_)
                      refine lv_lload_n hx hb dX6_weighs_176 rfl (lv_at hl 4 rfl) ?_
                      refine lv_iload hx hb dX6_weighs_177 (lv_at hl 0 rfl) ?_
                      refine lv_if_eq (tgt := 195) hx hb dX6_weighs_179 (by decide) (fun c179 => ?_) (fun c179 => absurd c179 (by decide))
                      refine lv_bipush (v := 10) hx hb dX6_weighs_195 (by decide) ?_
                      refine lv_aload_n hx hb dX6_weighs_197 rfl (lv_at hl 2 rfl) ?_
                      refine va_get (ci := 6) (v := .ref (q 1)) (C := RX6) (T := TX6) (N := 26) hx hb hts inlX6 hown hE.1 hP 0 rfl rfl 0 (by decide) (hts _ wB83) (fun _ h9 => h9) rfl dX6_weighs_198 ?_
                      refine lv_bipush (v := 6) hx hb dX6_weighs_201 (by decide) ?_
                      refine va_iald (f := (gR r31 0)) hx hb hE.1 hP 1 0 rfl rfl (k_in (by decide)) dX6_weighs_203 ?_
                      refine lv_isub hx hb dX6_weighs_204 ?_
                      refine lv_i2l (v := ((10 - ((gR r31 0) ((6 : Int32).toNatClampNeg))).toInt64)) hx hb dX6_weighs_205 rfl ?_
                      refine lv_lmul hx hb dX6_weighs_206 ?_
                      refine lv_lstore_n (lv' := [(2, .long (s94.1 * ((10 - ((gR r31 0) ((6 : Int32).toNatClampNeg))).toInt64))), (6, .int 0), (5, .int (20 + (4 * s94.2))), (0, .ref (q 0)), (1, .int s22.1), (4, .int s94.2)]) hx hb dX6_weighs_207 rfl hl (by decide) rfl (fun ls hl => ?_)
                      refine lv_iinc (v := (s94.2 + 1)) (lv' := [(4, .int (s94.2 + 1)), (2, .long (s94.1 * ((10 - ((gR r31 0) ((6 : Int32).toNatClampNeg))).toInt64))), (6, .int 0), (5, .int (20 + (4 * s94.2))), (0, .ref (q 0)), (1, .int s22.1)]) hx hb dX6_weighs_208 hl (k := 5) rfl (by rfl) (by decide) rfl (fun ls hl => ?_)
                      refine lv_goto (tgt := 94) hx hb dX6_weighs_211 (by decide) ?_
                      obtain rfl := o_ret hf
                      exact ih94 _ _ (lpK_r h94z) _ _ _ hP hD hS (lv_sub hl [4, 5, 1, 0] rfl) K94_0
                    · have hf := o_ip c166 hf
                      refine lv_iconst (v := 1) hx hb dX6_weighs_169 (by decide) ?_
                      refine lv_goto (tgt := 174) hx hb dX6_weighs_170 (by decide) ?_
                      refine lv_istore (lv' := [(6, .int 1), (5, .int (20 + (4 * s94.2))), (0, .ref (q 0)), (1, .int s22.1), (2, .long s94.1), (4, .int s94.2)]) hx hb dX6_weighs_174 hl (by decide) rfl (fun ls hl => ?_)
                      refine lv_lload_n hx hb dX6_weighs_176 rfl (lv_at hl 4 rfl) ?_
                      refine lv_iload hx hb dX6_weighs_177 (lv_at hl 0 rfl) ?_
                      refine lv_if_eq (tgt := 195) hx hb dX6_weighs_179 (by decide) (fun c179 => absurd c179 (by decide)) (fun c179 => ?_)
                      refine lv_iconst (v := 2) hx hb dX6_weighs_182 (by decide) ?_
                      refine lv_aload_n hx hb dX6_weighs_183 rfl (lv_at hl 2 rfl) ?_
                      refine va_get (ci := 6) (v := .ref (q 1)) (C := RX6) (T := TX6) (N := 26) hx hb hts inlX6 hown hE.1 hP 0 rfl rfl 0 (by decide) (hts _ wB83) (fun _ h9 => h9) rfl dX6_weighs_184 ?_
                      refine lv_bipush (v := 6) hx hb dX6_weighs_187 (by decide) ?_
                      refine va_iald (f := (gR r31 0)) hx hb hE.1 hP 1 0 rfl rfl (k_in (by decide)) dX6_weighs_189 ?_
                      refine lv_imul hx hb dX6_weighs_190 ?_
                      refine lv_i2l (v := ((2 * ((gR r31 0) ((6 : Int32).toNatClampNeg))).toInt64)) hx hb dX6_weighs_191 rfl ?_
                      refine lv_goto (tgt := 206) hx hb dX6_weighs_192 (by decide) ?_
                      refine lv_lmul hx hb dX6_weighs_206 ?_
                      refine lv_lstore_n (lv' := [(2, .long (s94.1 * ((2 * ((gR r31 0) ((6 : Int32).toNatClampNeg))).toInt64))), (6, .int 1), (5, .int (20 + (4 * s94.2))), (0, .ref (q 0)), (1, .int s22.1), (4, .int s94.2)]) hx hb dX6_weighs_207 rfl hl (by decide) rfl (fun ls hl => ?_)
                      refine lv_iinc (v := (s94.2 + 1)) (lv' := [(4, .int (s94.2 + 1)), (2, .long (s94.1 * ((2 * ((gR r31 0) ((6 : Int32).toNatClampNeg))).toInt64))), (6, .int 1), (5, .int (20 + (4 * s94.2))), (0, .ref (q 0)), (1, .int s22.1)]) hx hb dX6_weighs_208 hl (k := 5) rfl (by rfl) (by decide) rfl (fun ls hl => ?_)
                      refine lv_goto (tgt := 94) hx hb dX6_weighs_211 (by decide) ?_
                      obtain rfl := o_ret hf
                      exact ih94 _ _ (lpK_r h94z) _ _ _ hP hD hS (lv_sub hl [4, 5, 1, 0] rfl) K94_0
            obtain ⟨e94, h94q, hf⟩ := o_bs hf
            obtain ⟨n94v, h94q⟩ := lpF_ex h94q
            refine L94 n94v _ e94 h94q _ _ _ hP hD hS (lv_sub hl [2, 3, 1, 0] rfl) ?_
            intro H locs ls hP hD hS hl
            refine lv_aload_n hx hb dX6_weighs_214 rfl (lv_at hl 0 rfl) ?_
            refine va_get (ci := 6) (v := .ref (q 11)) (C := RX6) (T := TX6) (N := 26) hx hb hts inlX6 hown hE.1 hP 0 rfl rfl 20 (by decide) (hts _ wB94) (fun _ h9 => h9) rfl dX6_weighs_215 ?_
            refine lv_iload_n hx hb dX6_weighs_218 rfl (lv_at hl 1 rfl) ?_
            refine lv_lload_n hx hb dX6_weighs_219 rfl (lv_at hl 2 rfl) ?_
            obtain ⟨hg220, hf⟩ := gd_s hf
            refine va_last (f := (gA r31 0)) hx hb hE.1 hP hD hS 11 1 rfl rfl hg220 dX6_weighs_220 (fun H locs hP hD hS => ?_)
            have hP : va_P D vwCl (WM q cy (sA r31 0 (vp_updL (gA r31 0) (s22.1.toNatClampNeg) e94)) ++ rest) H := hP
            have hD : va_D A (WM q cy (sA r31 0 (vp_updL (gA r31 0) (s22.1.toNatClampNeg) e94)) ++ rest) := hD
            refine lv_aload_n hx hb dX6_weighs_221 rfl (lv_at hl 0 rfl) ?_
            refine lv_dup hx hb dX6_weighs_222 rfl ?_
            refine va_get (ci := 6) (v := .long (gL r31 0)) (C := RX6) (T := TX6) (N := 26) hx hb hts inlX6 hown hE.1 hP 0 rfl rfl 21 (by decide) (hts _ wB562) (fun _ h9 => h9) rfl dX6_weighs_223 ?_
            refine lv_lload_n hx hb dX6_weighs_226 rfl (lv_at hl 2 rfl) ?_
            refine lv_ladd hx hb dX6_weighs_227 ?_
            refine va_put (ci := 6) (v := .long ((gL r31 0) + e94)) (ty := .long) (C := RX6) (T := TX6) (N := 26) hx hb hts inlX6 tyX6 tyX6_ok nmX6 hown hE.1 hP hD hS 0 rfl rfl 21 (by decide) (hts _ wB562) (fun _ h9 => h9) rfl (by decide +kernel) rfl rfl (Nat.le_of_ble_eq_true rfl) dX6_weighs_228 (fun H locs hP hD hS => ?_)
            have hQ : ∀ (xb : KS) (x0 : (Nat → Int64)) (xn : Int64), (WM q cy (sA xb 0 x0) ++ rest).set 0 (q 0, .inr (6, [.ref (q 1), .ref (q 2), .ref (q 3), .ref (q 4), .int (gI (sA xb 0 x0) 0), .ref (q 5), .ref (q 6), .int (gI (sA xb 0 x0) 1), .int (gI (sA xb 0 x0) 2), .int (gI (sA xb 0 x0) 3), .int (gI (sA xb 0 x0) 4), .ref (q 7), .ref (q 8), .ref (q 9), .int (gI (sA xb 0 x0) 5), .ref (q 10), .int (gI (sA xb 0 x0) 6), .int (gI (sA xb 0 x0) 7), .int (gI (sA xb 0 x0) 8), .int (gI (sA xb 0 x0) 9), .ref (q 11), .long (gL (sA xb 0 x0) 0), .ref (q 12), .ref (q 13), .ref (q 14), .int (gI (sA xb 0 x0) 10)].set 21 (.long xn))) = WM q cy (sL (sA xb 0 x0) 0 xn) ++ rest := fun _ _ _ => rfl
            have hP : va_P D vwCl (WM q cy (sL (sA r31 0 (vp_updL (gA r31 0) (s22.1.toNatClampNeg) e94)) 0 ((gL r31 0) + e94)) ++ rest) H := k_wP (hQ r31 (vp_updL (gA r31 0) (s22.1.toNatClampNeg) e94) ((gL r31 0) + e94)) hP
            have hD : va_D A (WM q cy (sL (sA r31 0 (vp_updL (gA r31 0) (s22.1.toNatClampNeg) e94)) 0 ((gL r31 0) + e94)) ++ rest) := k_wD (hQ r31 (vp_updL (gA r31 0) (s22.1.toNatClampNeg) e94) ((gL r31 0) + e94)) hD
            clear hQ
            refine lv_iinc (v := (s22.1 + 1)) (lv' := [(1, .int (s22.1 + 1)), (0, .ref (q 0)), (2, .long e94)]) hx hb dX6_weighs_231 hl (k := 1) rfl (by rfl) (by decide) rfl (fun ls hl => ?_)
            refine lv_goto (tgt := 22) hx hb dX6_weighs_234 (by decide) ?_
            obtain rfl := o_ret hf
            exact ih22 _ _ (lpK_r h22z) _ _ _ hP hD hS (lv_sub hl [1, 0] rfl) K22_0
    obtain ⟨e22, h22q, hf⟩ := o_bs hf
    obtain ⟨n22v, h22q⟩ := lpF_ex h22q
    refine L22 n22v _ e22 h22q _ _ _ hP hD hS (lv_sub hl [1, 0] rfl) ?_
    intro H locs ls hP hD hS hl
    refine lv_aload_n hx hb dX6_weighs_237 rfl (lv_at hl 0 rfl) ?_
    refine va_get (ci := 6) (v := .long (gL e22 0)) (C := RX6) (T := TX6) (N := 26) hx hb hts inlX6 hown hE.1 hP 0 rfl rfl 21 (by decide) (hts _ wB562) (fun _ h9 => h9) rfl dX6_weighs_238 ?_
    refine lv_lconst (v := 0) hx hb dX6_weighs_241 (by decide) ?_
    refine W.lcmp hx hb dX6_weighs_242 ?_
    refine lv_if_le (tgt := 250) hx hb dX6_weighs_243 (by decide) (fun c243 => ?_) (fun c243 => ?_)
    · have hf := o_ip c243 hf
      refine lv_iconst (v := 0) hx hb dX6_weighs_250 (by decide) ?_
      obtain rfl := o_ret hf
      exact k_zret (v := 0) hx hb hr hP hD hS rfl (Nat.zero_le _) (Nat.zero_le _) hlocks dX6_weighs_251
    · have hf := o_in c243 hf
      refine lv_iconst (v := 1) hx hb dX6_weighs_246 (by decide) ?_
      refine lv_goto (tgt := 251) hx hb dX6_weighs_247 (by decide) ?_
      obtain rfl := o_ret hf
      exact k_zret (v := 1) hx hb hr hP hD hS rfl (Nat.zero_le _) (Nat.zero_le _) hlocks dX6_weighs_251
  · have hf := o_ip c15 hf
    refine lv_iconst (v := 0) hx hb dX6_weighs_18 (by decide) ?_
    obtain rfl := o_ret hf
    exact k_zret (v := 0) hx hb hr hP hD hS rfl (Nat.zero_le _) (Nat.zero_le _) hlocks dX6_weighs_19
noncomputable def mX6_leaks_s46 (c1 : Int32) (c2 : Int32) (s46 : Int32 × KS) : Option ((KS) ⊕ (Int32 × KS)) :=
  if (gI s46.2 5) ≤ s46.1 then
  (some (.inl s46.2))
  else
  (gd (inb c2 21) ((mX6_given s46.2 c2 s46.1 0).bind fun r65 =>
  gd (inb c2 21) (some (.inr ((s46.1 + 1), (sR s46.2 10 (upd (gR s46.2 10) (c2.toNatClampNeg) (((gR s46.2 10) (c2.toNatClampNeg)) + r65))))))))
noncomputable def mX6_leaks_s31 (c1 : Int32) (s31 : Int32 × KS) : Option ((KS) ⊕ (Int32 × KS)) :=
  if 21 ≤ s31.1 then
  (some (.inl s31.2))
  else
  (gd (inb s31.1 21) ((lpF (mX6_leaks_s46 c1 s31.1) (0, (sR s31.2 10 (upd (gR s31.2 10) (s31.1.toNatClampNeg) 0)))).bind fun e46 =>
  some (.inr ((s31.1 + 1), e46))))
noncomputable def mX6_leaks_s87 (c1 : Int32) (s87 : Int64 × Int32 × KS) : Option (((Int64 × KS)) ⊕ (Int64 × Int32 × KS)) :=
  if 2731 ≤ s87.2.1 then
  (some (.inl (s87.1, s87.2.2)))
  else
  ((mX6_opens s87.2.2 s87.2.1).bind fun r98 =>
  if (gI r98 8) = (-1) then
  (if (gI r98 9) = (-1) then
  (if c1 ≤ (0 + 0) then
  (some (.inr ((s87.1 + 0), (s87.2.1 + 1), r98)))
  else
  (gd (inb s87.2.1 2731) (some (.inr ((s87.1 + ((gA r98 0) (s87.2.1.toNatClampNeg))), (s87.2.1 + 1), r98)))))
  else
  (gd (inb (gI r98 9) 21) (if c1 ≤ (0 + ((gR r98 10) ((gI r98 9).toNatClampNeg))) then
  (some (.inr ((s87.1 + 0), (s87.2.1 + 1), r98)))
  else
  (gd (inb s87.2.1 2731) (some (.inr ((s87.1 + ((gA r98 0) (s87.2.1.toNatClampNeg))), (s87.2.1 + 1), r98)))))))
  else
  (gd (inb (gI r98 8) 21) (if (gI r98 9) = (-1) then
  (if c1 ≤ (((gR r98 10) ((gI r98 8).toNatClampNeg)) + 0) then
  (some (.inr ((s87.1 + 0), (s87.2.1 + 1), r98)))
  else
  (gd (inb s87.2.1 2731) (some (.inr ((s87.1 + ((gA r98 0) (s87.2.1.toNatClampNeg))), (s87.2.1 + 1), r98)))))
  else
  (gd (inb (gI r98 9) 21) (if c1 ≤ (((gR r98 10) ((gI r98 8).toNatClampNeg)) + ((gR r98 10) ((gI r98 9).toNatClampNeg))) then
  (some (.inr ((s87.1 + 0), (s87.2.1 + 1), r98)))
  else
  (gd (inb s87.2.1 2731) (some (.inr ((s87.1 + ((gA r98 0) (s87.2.1.toNatClampNeg))), (s87.2.1 + 1), r98)))))))))
noncomputable def mX6_leaks (u : KS) (a1 : Int32) : Option (Int32 × KS) :=
  (mX6_in (a1.toInt64) 0 99999).bind fun r6 =>
  if r6 = 0 then
  ((mX6_bad u).bind fun r13 =>
  some (r13.1, r13.2))
  else
  ((mX6_weighs u).bind fun r18 =>
  if r18.1 = 0 then
  ((mX6_no r18.2).bind fun r25 =>
  some (r25.1, r25.2))
  else
  ((lpF (mX6_leaks_s31 a1) (0, r18.2)).bind fun e31 =>
  (lpF (mX6_leaks_s87 a1) (0, 0, e31)).bind fun e87 =>
  (mX6_tells e87.2 e87.1 (gL e87.2 0)).bind fun r178 =>
  some (r178.1, r178.2)))
abbrev rmX6_leaks : Room := { frames := 6, cells := 0, slots := 0, locals := 143 }
set_option maxRecDepth 100000 in
set_option maxHeartbeats 4000000 in
theorem zX6_leaks (l : Launch) (D : va_G) (cy : Nat → ClassId) (sa : Nat → Nat) (q : Nat → Nat) (rest : va_W) (sz : Nat) (u : KS) (a1 : Int32) (res : Int32 × KS) (hf : mX6_leaks u a1 = some res) : kMi l yX6_leaks (wsK yX6_leaks cX6_leaks 6 (some .int)) rmX6_leaks D cy sa (WM q cy u ++ rest) sz [.ref (q 0), .int a1] res.1 (WM q cy res.2 ++ rest) 0 0 := by
  refine kM_of (Qc := fun A => kQi D A res.1 (WM q cy res.2 ++ rest)) (cc := cX6_leaks) (maxL := 6) (ret := (some .int)) (by decide) (Nat.le_of_ble_eq_true rfl) ?_
  intro p e s m below meth c A hx hb hml hr hts hown hlocks hin hA hP hD hS hE hsz ls hl
  have hown : s.vm.findClass RX6 = some m.cls := hown
  obtain ⟨H, hH0⟩ : ∃ H, H = s.heap := ⟨_, rfl⟩
  obtain ⟨locs, hlocs0⟩ : ∃ locs : List Loc, locs = [] := ⟨_, rfl⟩
  have hP : va_P D vwCl (WM q cy u ++ rest) H := by rw [hH0]; exact hP
  have hS : va_S A s.heap H locs := by rw [hH0, hlocs0]; exact hS
  have hl : lv_has ls 6 [(0, .ref (q 0)), (1, .int a1)] := hl
  suffices hgoal : W p l e rmX6_leaks s m ([.ref (q 0), .int a1] : List Value).toArray below meth c H locs 0 0 (MQ below (kQi D A res.1 (WM q cy res.2 ++ rest)) ([.ref (q 0), .int a1] : List Value).toArray s 0 0 A) (F0 m 0 ls []) by rw [hH0, hlocs0] at hgoal; exact hgoal
  clear hH0 hlocs0
  unfold mX6_leaks at hf
  refine lv_iload_n hx hb dX6_leaks_0 rfl (lv_at hl 1 rfl) ?_
  refine lv_i2l (v := (a1.toInt64)) hx hb dX6_leaks_1 rfl ?_
  refine lv_lconst (v := 0) hx hb dX6_leaks_2 (by decide) ?_
  refine lv_ldc2 (v := 99999) hx hb hown (hts _ wB683) dX6_leaks_3 ?_
  obtain ⟨r6, h6r, hf⟩ := o_bs hf
  refine k_goi (va_runS (As := [.long (a1.toInt64), .long 0, .long 99999]) (rest := []) ⟨hx, hb, hml, hown, hts⟩ (zX6_in l D cy sa (WM q cy u ++ rest) H.size (a1.toInt64) 0 99999  r6  h6r) (va_cwS 3 hts (gB_S wB141 wB142 wB5 wB143) rfl rfl rfl (by decide +kernel) ⟨Nat.le_of_ble_eq_true rfl, Nat.le_of_ble_eq_true rfl⟩) ⟨kP.blind, k_pre hP hD hS hE hA⟩ rfl rfl hl.1 rfl (lv_room (Nat.le_of_ble_eq_true rfl)) dX6_leaks_6 ⟨Nat.zero_le _, Nat.zero_le _⟩) hD hS hA (fun H locs hP hD hS => ?_)
  refine lv_if_ne (tgt := 17) hx hb dX6_leaks_9 (by decide) (fun c9 => ?_) (fun c9 => ?_)
  · have hf := o_in c9 hf
    refine lv_aload_n hx hb dX6_leaks_17 rfl (lv_at hl 0 rfl) ?_
    obtain ⟨r18, h18r, hf⟩ := o_bs hf
    refine k_goi (va_runV (As := []) (rest := []) ⟨hx, hb, hml, hown, hts⟩ (zX6_weighs l D cy sa q rest H.size u  r18 h18r) (cwV 0 hts (gB_V wB563 wB564 wB565 wB5 wB566) rfl rfl rfl (by decide +kernel) ⟨Nat.le_of_ble_eq_true rfl, Nat.le_of_ble_eq_true rfl⟩) ⟨kP.blind, k_recv hE hP (ci := 6) (q0 := 0) rfl rfl, k_pre hP hD hS hE hA⟩ rfl rfl hl.1 rfl (lv_room (Nat.le_of_ble_eq_true rfl)) dX6_leaks_18 ⟨Nat.zero_le _, Nat.zero_le _⟩) hD hS hA (fun H locs hP hD hS => ?_)
    refine lv_if_ne (tgt := 29) hx hb dX6_leaks_21 (by decide) (fun c21 => ?_) (fun c21 => ?_)
    · have hf := o_in c21 hf
      refine lv_iconst (v := 0) hx hb dX6_leaks_29 (by decide) ?_
      refine lv_istore_n (lv' := [(2, .int 0), (0, .ref (q 0)), (1, .int a1)]) hx hb dX6_leaks_30 rfl hl (by decide) rfl (fun ls hl => ?_)
      have L31 : ∀ (n31v : Nat) (s31 : Int32 × KS) (e31 : KS), lpO (mX6_leaks_s31 a1) n31v s31 = some e31 → ∀ (H : Heap) (locs : List Loc) (ls : Array Slot), va_P D vwCl (WM q cy s31.2 ++ rest) H → va_D A (WM q cy s31.2 ++ rest) → va_S A s.heap H locs → lv_has ls 6 [(0, .ref (q 0)), (1, .int a1), (2, .int s31.1)] → (∀ (H : Heap) (locs : List Loc) (ls : Array Slot), va_P D vwCl (WM q cy e31 ++ rest) H → va_D A (WM q cy e31 ++ rest) → va_S A s.heap H locs → lv_has ls 6 [(0, .ref (q 0)), (1, .int a1)] → W p l e rmX6_leaks s m ([.ref (q 0), .int a1] : List Value).toArray below meth c H locs 0 0 (MQ below (kQi D A res.1 (WM q cy res.2 ++ rest)) ([.ref (q 0), .int a1] : List Value).toArray s 0 0 A) (F0 m 82 ls [])) → W p l e rmX6_leaks s m ([.ref (q 0), .int a1] : List Value).toArray below meth c H locs 0 0 (MQ below (kQi D A res.1 (WM q cy res.2 ++ rest)) ([.ref (q 0), .int a1] : List Value).toArray s 0 0 A) (F0 m 31 ls []) := by
        intro n31v
        induction n31v with
        | zero => intro s31 e31 h; exact (lpO_z h).elim
        | succ n31v ih31 =>
          intro s31 e31 h31z H locs ls hP hD hS hl K31_0
          obtain ⟨x31, hf, h31z⟩ := lpO_s h31z
          unfold mX6_leaks_s31 at hf
          refine lv_iload_n hx hb dX6_leaks_31 rfl (lv_at hl 2 rfl) ?_
          refine lv_bipush (v := 21) hx hb dX6_leaks_32 (by decide) ?_
          refine lv_icmp_ge (tgt := 82) hx hb dX6_leaks_34 (by decide) (fun c34 => ?_) (fun c34 => ?_)
          · have hf := o_ip c34 hf
            obtain rfl := o_ret hf
            obtain rfl := lpK_l h31z
            exact K31_0 _ _ _ hP hD hS (lv_sub hl [0, 1] rfl)
          · have hf := o_in c34 hf
            refine lv_aload_n hx hb dX6_leaks_37 rfl (lv_at hl 0 rfl) ?_
            refine va_get (ci := 6) (v := .ref (q 13)) (C := RX6) (T := TX6) (N := 26) hx hb hts inlX6 hown hE.1 hP 0 rfl rfl 23 (by decide) (hts _ wB96) (fun _ h9 => h9) rfl dX6_leaks_38 ?_
            refine lv_iload_n hx hb dX6_leaks_41 rfl (lv_at hl 2 rfl) ?_
            refine lv_iconst (v := 0) hx hb dX6_leaks_42 (by decide) ?_
            obtain ⟨hg43, hf⟩ := gd_s hf
            refine va_iast (f := (gR s31.2 10)) hx hb hE.1 hP hD hS 13 0 rfl rfl hg43 dX6_leaks_43 (fun H locs hP hD hS => ?_)
            have hP : va_P D vwCl (WM q cy (sR s31.2 10 (upd (gR s31.2 10) (s31.1.toNatClampNeg) 0)) ++ rest) H := hP
            have hD : va_D A (WM q cy (sR s31.2 10 (upd (gR s31.2 10) (s31.1.toNatClampNeg) 0)) ++ rest) := hD
            refine lv_iconst (v := 0) hx hb dX6_leaks_44 (by decide) ?_
            refine lv_istore_n (lv' := [(3, .int 0), (0, .ref (q 0)), (1, .int a1), (2, .int s31.1)]) hx hb dX6_leaks_45 rfl hl (by decide) rfl (fun ls hl => ?_)
            have L46 : ∀ (n46v : Nat) (s46 : Int32 × KS) (e46 : KS), lpO (mX6_leaks_s46 a1 s31.1) n46v s46 = some e46 → ∀ (H : Heap) (locs : List Loc) (ls : Array Slot), va_P D vwCl (WM q cy s46.2 ++ rest) H → va_D A (WM q cy s46.2 ++ rest) → va_S A s.heap H locs → lv_has ls 6 [(0, .ref (q 0)), (1, .int a1), (2, .int s31.1), (3, .int s46.1)] → (∀ (H : Heap) (locs : List Loc) (ls : Array Slot), va_P D vwCl (WM q cy e46 ++ rest) H → va_D A (WM q cy e46 ++ rest) → va_S A s.heap H locs → lv_has ls 6 [(0, .ref (q 0)), (1, .int a1), (2, .int s31.1)] → W p l e rmX6_leaks s m ([.ref (q 0), .int a1] : List Value).toArray below meth c H locs 0 0 (MQ below (kQi D A res.1 (WM q cy res.2 ++ rest)) ([.ref (q 0), .int a1] : List Value).toArray s 0 0 A) (F0 m 76 ls [])) → W p l e rmX6_leaks s m ([.ref (q 0), .int a1] : List Value).toArray below meth c H locs 0 0 (MQ below (kQi D A res.1 (WM q cy res.2 ++ rest)) ([.ref (q 0), .int a1] : List Value).toArray s 0 0 A) (F0 m 46 ls []) := by
              intro n46v
              induction n46v with
              | zero => intro s46 e46 h; exact (lpO_z h).elim
              | succ n46v ih46 =>
                intro s46 e46 h46z H locs ls hP hD hS hl K46_0
                obtain ⟨x46, hf, h46z⟩ := lpO_s h46z
                unfold mX6_leaks_s46 at hf
                refine lv_iload_n hx hb dX6_leaks_46 rfl (lv_at hl 3 rfl) ?_
                refine lv_aload_n hx hb dX6_leaks_47 rfl (lv_at hl 0 rfl) ?_
                refine va_get (ci := 6) (v := .int (gI s46.2 5)) (C := RX6) (T := TX6) (N := 26) hx hb hts inlX6 hown hE.1 hP 0 rfl rfl 14 (by decide) (hts _ wB289) (fun _ h9 => h9) rfl dX6_leaks_48 ?_
                refine lv_icmp_ge (tgt := 76) hx hb dX6_leaks_51 (by decide) (fun c51 => ?_) (fun c51 => ?_)
                · have hf := o_ip c51 hf
                  obtain rfl := o_ret hf
                  obtain rfl := lpK_l h46z
                  exact K46_0 _ _ _ hP hD hS (lv_sub hl [0, 1, 2] rfl)
                · have hf := o_in c51 hf
                  refine lv_aload_n hx hb dX6_leaks_54 rfl (lv_at hl 0 rfl) ?_
                  refine va_get (ci := 6) (v := .ref (q 13)) (C := RX6) (T := TX6) (N := 26) hx hb hts inlX6 hown hE.1 hP 0 rfl rfl 23 (by decide) (hts _ wB96) (fun _ h9 => h9) rfl dX6_leaks_55 ?_
                  refine lv_iload_n hx hb dX6_leaks_58 rfl (lv_at hl 2 rfl) ?_
                  refine lv_dup2_11 hx hb dX6_leaks_59 rfl rfl ?_
                  obtain ⟨hg60, hf⟩ := gd_s hf
                  refine va_iald (f := (gR s46.2 10)) hx hb hE.1 hP 13 0 rfl rfl hg60 dX6_leaks_60 ?_
                  refine lv_aload_n hx hb dX6_leaks_61 rfl (lv_at hl 0 rfl) ?_
                  refine lv_iload_n hx hb dX6_leaks_62 rfl (lv_at hl 2 rfl) ?_
                  refine lv_iload_n hx hb dX6_leaks_63 rfl (lv_at hl 3 rfl) ?_
                  refine lv_iconst (v := 0) hx hb dX6_leaks_64 (by decide) ?_
                  obtain ⟨r65, h65r, hf⟩ := o_bs hf
                  refine k_goi (va_runV (As := [.int s31.1, .int s46.1, .int 0]) (rest := [.int ((gR s46.2 10) (s31.1.toNatClampNeg)), .int s31.1, .ref (q 13)]) ⟨hx, hb, hml, hown, hts⟩ (zX6_given l D cy sa q rest H.size s46.2 s31.1 s46.1 0 r65 h65r) (cwV 3 hts (gB_V wB442 wB443 wB444 wB5 wB445) rfl rfl rfl (by decide +kernel) ⟨Nat.le_of_ble_eq_true rfl, Nat.le_of_ble_eq_true rfl⟩) ⟨kP.blind, k_recv hE hP (ci := 6) (q0 := 0) rfl rfl, k_pre hP hD hS hE hA⟩ rfl rfl hl.1 rfl (lv_room (Nat.le_of_ble_eq_true rfl)) dX6_leaks_65 ⟨Nat.zero_le _, Nat.zero_le _⟩) hD hS hA (fun H locs hP hD hS => ?_)
                  refine lv_iadd hx hb dX6_leaks_68 ?_
                  obtain ⟨hg69, hf⟩ := gd_s hf
                  refine va_iast (f := (gR s46.2 10)) hx hb hE.1 hP hD hS 13 0 rfl rfl hg69 dX6_leaks_69 (fun H locs hP hD hS => ?_)
                  have hP : va_P D vwCl (WM q cy (sR s46.2 10 (upd (gR s46.2 10) (s31.1.toNatClampNeg) (((gR s46.2 10) (s31.1.toNatClampNeg)) + r65))) ++ rest) H := hP
                  have hD : va_D A (WM q cy (sR s46.2 10 (upd (gR s46.2 10) (s31.1.toNatClampNeg) (((gR s46.2 10) (s31.1.toNatClampNeg)) + r65))) ++ rest) := hD
                  refine lv_iinc (v := (s46.1 + 1)) (lv' := [(3, .int (s46.1 + 1)), (0, .ref (q 0)), (1, .int a1), (2, .int s31.1)]) hx hb dX6_leaks_70 hl (k := 3) rfl (by rfl) (by decide) rfl (fun ls hl => ?_)
                  refine lv_goto (tgt := 46) hx hb dX6_leaks_73 (by decide) ?_
                  obtain rfl := o_ret hf
                  exact ih46 _ _ (lpK_r h46z) _ _ _ hP hD hS (lv_sub hl [1, 2, 3, 0] rfl) K46_0
            obtain ⟨e46, h46q, hf⟩ := o_bs hf
            obtain ⟨n46v, h46q⟩ := lpF_ex h46q
            refine L46 n46v _ e46 h46q _ _ _ hP hD hS (lv_sub hl [1, 2, 3, 0] rfl) ?_
            intro H locs ls hP hD hS hl
            refine lv_iinc (v := (s31.1 + 1)) (lv' := [(2, .int (s31.1 + 1)), (0, .ref (q 0)), (1, .int a1)]) hx hb dX6_leaks_76 hl (k := 2) rfl (by rfl) (by decide) rfl (fun ls hl => ?_)
            refine lv_goto (tgt := 31) hx hb dX6_leaks_79 (by decide) ?_
            obtain rfl := o_ret hf
            exact ih31 _ _ (lpK_r h31z) _ _ _ hP hD hS (lv_sub hl [1, 2, 0] rfl) K31_0
      obtain ⟨e31, h31q, hf⟩ := o_bs hf
      obtain ⟨n31v, h31q⟩ := lpF_ex h31q
      refine L31 n31v _ e31 h31q _ _ _ hP hD hS (lv_sub hl [1, 2, 0] rfl) ?_
      intro H locs ls hP hD hS hl
      refine lv_lconst (v := 0) hx hb dX6_leaks_82 (by decide) ?_
      refine lv_lstore_n (lv' := [(2, .long 0), (0, .ref (q 0)), (1, .int a1)]) hx hb dX6_leaks_83 rfl hl (by decide) rfl (fun ls hl => ?_)
      refine lv_iconst (v := 0) hx hb dX6_leaks_84 (by decide) ?_
      refine lv_istore (lv' := [(4, .int 0), (2, .long 0), (0, .ref (q 0)), (1, .int a1)]) hx hb dX6_leaks_85 hl (by decide) rfl (fun ls hl => ?_)
      have L87 : ∀ (n87v : Nat) (s87 : Int64 × Int32 × KS) (e87 : (Int64 × KS)), lpO (mX6_leaks_s87 a1) n87v s87 = some e87 → ∀ (H : Heap) (locs : List Loc) (ls : Array Slot), va_P D vwCl (WM q cy s87.2.2 ++ rest) H → va_D A (WM q cy s87.2.2 ++ rest) → va_S A s.heap H locs → lv_has ls 6 [(0, .ref (q 0)), (1, .int a1), (2, .long s87.1), (4, .int s87.2.1)] → (∀ (H : Heap) (locs : List Loc) (ls : Array Slot), va_P D vwCl (WM q cy e87.2 ++ rest) H → va_D A (WM q cy e87.2 ++ rest) → va_S A s.heap H locs → lv_has ls 6 [(0, .ref (q 0)), (2, .long e87.1)] → W p l e rmX6_leaks s m ([.ref (q 0), .int a1] : List Value).toArray below meth c H locs 0 0 (MQ below (kQi D A res.1 (WM q cy res.2 ++ rest)) ([.ref (q 0), .int a1] : List Value).toArray s 0 0 A) (F0 m 172 ls [])) → W p l e rmX6_leaks s m ([.ref (q 0), .int a1] : List Value).toArray below meth c H locs 0 0 (MQ below (kQi D A res.1 (WM q cy res.2 ++ rest)) ([.ref (q 0), .int a1] : List Value).toArray s 0 0 A) (F0 m 87 ls []) := by
        intro n87v
        induction n87v with
        | zero => intro s87 e87 h; exact (lpO_z h).elim
        | succ n87v ih87 =>
          intro s87 e87 h87z H locs ls hP hD hS hl K87_0
          obtain ⟨x87, hf, h87z⟩ := lpO_s h87z
          unfold mX6_leaks_s87 at hf
          refine lv_iload hx hb dX6_leaks_87 (lv_at hl 3 rfl) ?_
          refine lv_sipush (v := 2731) hx hb dX6_leaks_89 (by decide) ?_
          refine lv_icmp_ge (tgt := 172) hx hb dX6_leaks_92 (by decide) (fun c92 => ?_) (fun c92 => ?_)
          · have hf := o_ip c92 hf
            obtain rfl := o_ret hf
            obtain rfl := lpK_l h87z
            exact K87_0 _ _ _ hP hD hS (lv_sub hl [0, 2] rfl)
          · have hf := o_in c92 hf
            refine lv_aload_n hx hb dX6_leaks_95 rfl (lv_at hl 0 rfl) ?_
            refine lv_iload hx hb dX6_leaks_96 (lv_at hl 3 rfl) ?_
            obtain ⟨r98, h98r, hf⟩ := o_bs hf
            refine k_gov (va_runV (As := [.int s87.2.1]) (rest := []) ⟨hx, hb, hml, hown, hts⟩ (zX6_opens l D cy sa q rest H.size s87.2.2 s87.2.1 r98 h98r) (cwV 1 hts (gB_V wB567 wB568 wB569 wB5 wB570) rfl rfl rfl (by decide +kernel) ⟨Nat.le_of_ble_eq_true rfl, Nat.le_of_ble_eq_true rfl⟩) ⟨kP.blind, k_recv hE hP (ci := 6) (q0 := 0) rfl rfl, k_pre hP hD hS hE hA⟩ rfl rfl hl.1 rfl (lv_room (Nat.le_of_ble_eq_true rfl)) dX6_leaks_98 ⟨Nat.zero_le _, Nat.zero_le _⟩) hD hS hA (fun H locs hP hD hS => ?_)
            refine lv_aload_n hx hb dX6_leaks_101 rfl (lv_at hl 0 rfl) ?_
            refine va_get (ci := 6) (v := .int (gI r98 8)) (C := RX6) (T := TX6) (N := 26) hx hb hts inlX6 hown hE.1 hP 0 rfl rfl 18 (by decide) (hts _ wB559) (fun _ h9 => h9) rfl dX6_leaks_102 ?_
            refine lv_iconst (v := (-1)) hx hb dX6_leaks_105 (by decide) ?_
            refine lv_icmp_ne (tgt := 113) hx hb dX6_leaks_106 (by decide) (fun c106 => ?_) (fun c106 => ?_)
            · have hf := o_in c106 hf
              refine lv_aload_n hx hb dX6_leaks_113 rfl (lv_at hl 0 rfl) ?_
              refine va_get (ci := 6) (v := .ref (q 13)) (C := RX6) (T := TX6) (N := 26) hx hb hts inlX6 hown hE.1 hP 0 rfl rfl 23 (by decide) (hts _ wB96) (fun _ h9 => h9) rfl dX6_leaks_114 ?_
              refine lv_aload_n hx hb dX6_leaks_117 rfl (lv_at hl 0 rfl) ?_
              refine va_get (ci := 6) (v := .int (gI r98 8)) (C := RX6) (T := TX6) (N := 26) hx hb hts inlX6 hown hE.1 hP 0 rfl rfl 18 (by decide) (hts _ wB559) (fun _ h9 => h9) rfl dX6_leaks_118 ?_
              obtain ⟨hg121, hf⟩ := gd_s hf
              refine va_iald (f := (gR r98 10)) hx hb hE.1 hP 13 0 rfl rfl hg121 dX6_leaks_121 ?_
              refine lv_aload_n hx hb dX6_leaks_122 rfl (lv_at hl 0 rfl) ?_
              refine va_get (ci := 6) (v := .int (gI r98 9)) (C := RX6) (T := TX6) (N := 26) hx hb hts inlX6 hown hE.1 hP 0 rfl rfl 19 (by decide) (hts _ wB561) (fun _ h9 => h9) rfl dX6_leaks_123 ?_
              refine lv_iconst (v := (-1)) hx hb dX6_leaks_126 (by decide) ?_
              refine lv_icmp_ne (tgt := 134) hx hb dX6_leaks_127 (by decide) (fun c127 => ?_) (fun c127 => ?_)
              · have hf := o_in c127 hf
                refine lv_aload_n hx hb dX6_leaks_134 rfl (lv_at hl 0 rfl) ?_
                refine va_get (ci := 6) (v := .ref (q 13)) (C := RX6) (T := TX6) (N := 26) hx hb hts inlX6 hown hE.1 hP 0 rfl rfl 23 (by decide) (hts _ wB96) (fun _ h9 => h9) rfl dX6_leaks_135 ?_
                refine lv_aload_n hx hb dX6_leaks_138 rfl (lv_at hl 0 rfl) ?_
                refine va_get (ci := 6) (v := .int (gI r98 9)) (C := RX6) (T := TX6) (N := 26) hx hb hts inlX6 hown hE.1 hP 0 rfl rfl 19 (by decide) (hts _ wB561) (fun _ h9 => h9) rfl dX6_leaks_139 ?_
                obtain ⟨hg142, hf⟩ := gd_s hf
                refine va_iald (f := (gR r98 10)) hx hb hE.1 hP 13 0 rfl rfl hg142 dX6_leaks_142 ?_
                refine lv_iadd hx hb dX6_leaks_143 ?_
                refine lv_istore (lv' := [(5, .int (((gR r98 10) ((gI r98 8).toNatClampNeg)) + ((gR r98 10) ((gI r98 9).toNatClampNeg)))), (0, .ref (q 0)), (1, .int a1), (2, .long s87.1), (4, .int s87.2.1)]) hx hb dX6_leaks_144 hl (by decide) rfl (fun ls hl => ?_)
                refine lv_lload_n hx hb dX6_leaks_146 rfl (lv_at hl 3 rfl) ?_
                refine lv_iload hx hb dX6_leaks_147 (lv_at hl 0 rfl) ?_
                refine lv_iload_n hx hb dX6_leaks_149 rfl (lv_at hl 2 rfl) ?_
                refine lv_icmp_ge (tgt := 163) hx hb dX6_leaks_150 (by decide) (fun c150 => ?_) (fun c150 => ?_)
                · have hf := o_ip c150 hf
                  refine lv_lconst (v := 0) hx hb dX6_leaks_163 (by decide) ?_
                  refine lv_ladd hx hb dX6_leaks_164 ?_
                  refine lv_lstore_n (lv' := [(2, .long (s87.1 + 0)), (5, .int (((gR r98 10) ((gI r98 8).toNatClampNeg)) + ((gR r98 10) ((gI r98 9).toNatClampNeg)))), (0, .ref (q 0)), (1, .int a1), (4, .int s87.2.1)]) hx hb dX6_leaks_165 rfl hl (by decide) rfl (fun ls hl => ?_)
                  refine lv_iinc (v := (s87.2.1 + 1)) (lv' := [(4, .int (s87.2.1 + 1)), (2, .long (s87.1 + 0)), (5, .int (((gR r98 10) ((gI r98 8).toNatClampNeg)) + ((gR r98 10) ((gI r98 9).toNatClampNeg)))), (0, .ref (q 0)), (1, .int a1)]) hx hb dX6_leaks_166 hl (k := 4) rfl (by rfl) (by decide) rfl (fun ls hl => ?_)
                  refine lv_goto (tgt := 87) hx hb dX6_leaks_169 (by decide) ?_
                  obtain rfl := o_ret hf
                  exact ih87 _ _ (lpK_r h87z) _ _ _ hP hD hS (lv_sub hl [3, 4, 1, 0] rfl) K87_0
                · have hf := o_in c150 hf
                  refine lv_aload_n hx hb dX6_leaks_153 rfl (lv_at hl 1 rfl) ?_
                  refine va_get (ci := 6) (v := .ref (q 11)) (C := RX6) (T := TX6) (N := 26) hx hb hts inlX6 hown hE.1 hP 0 rfl rfl 20 (by decide) (hts _ wB94) (fun _ h9 => h9) rfl dX6_leaks_154 ?_
                  refine lv_iload hx hb dX6_leaks_157 (lv_at hl 4 rfl) ?_
                  obtain ⟨hg159, hf⟩ := gd_s hf
                  refine va_lald (f := (gA r98 0)) hx hb hE.1 hP 11 1 rfl rfl hg159 dX6_leaks_159 ?_
                  refine lv_goto (tgt := 164) hx hb dX6_leaks_160 (by decide) ?_
                  refine lv_ladd hx hb dX6_leaks_164 ?_
                  refine lv_lstore_n (lv' := [(2, .long (s87.1 + ((gA r98 0) (s87.2.1.toNatClampNeg)))), (5, .int (((gR r98 10) ((gI r98 8).toNatClampNeg)) + ((gR r98 10) ((gI r98 9).toNatClampNeg)))), (0, .ref (q 0)), (1, .int a1), (4, .int s87.2.1)]) hx hb dX6_leaks_165 rfl hl (by decide) rfl (fun ls hl => ?_)
                  refine lv_iinc (v := (s87.2.1 + 1)) (lv' := [(4, .int (s87.2.1 + 1)), (2, .long (s87.1 + ((gA r98 0) (s87.2.1.toNatClampNeg)))), (5, .int (((gR r98 10) ((gI r98 8).toNatClampNeg)) + ((gR r98 10) ((gI r98 9).toNatClampNeg)))), (0, .ref (q 0)), (1, .int a1)]) hx hb dX6_leaks_166 hl (k := 4) rfl (by rfl) (by decide) rfl (fun ls hl => ?_)
                  refine lv_goto (tgt := 87) hx hb dX6_leaks_169 (by decide) ?_
                  obtain rfl := o_ret hf
                  exact ih87 _ _ (lpK_r h87z) _ _ _ hP hD hS (lv_sub hl [3, 4, 1, 0] rfl) K87_0
              · have hf := o_ip c127 hf
                refine lv_iconst (v := 0) hx hb dX6_leaks_130 (by decide) ?_
                refine lv_goto (tgt := 143) hx hb dX6_leaks_131 (by decide) ?_
                refine lv_iadd hx hb dX6_leaks_143 ?_
                refine lv_istore (lv' := [(5, .int (((gR r98 10) ((gI r98 8).toNatClampNeg)) + 0)), (0, .ref (q 0)), (1, .int a1), (2, .long s87.1), (4, .int s87.2.1)]) hx hb dX6_leaks_144 hl (by decide) rfl (fun ls hl => ?_)
                refine lv_lload_n hx hb dX6_leaks_146 rfl (lv_at hl 3 rfl) ?_
                refine lv_iload hx hb dX6_leaks_147 (lv_at hl 0 rfl) ?_
                refine lv_iload_n hx hb dX6_leaks_149 rfl (lv_at hl 2 rfl) ?_
                refine lv_icmp_ge (tgt := 163) hx hb dX6_leaks_150 (by decide) (fun c150 => ?_) (fun c150 => ?_)
                · have hf := o_ip c150 hf
                  refine lv_lconst (v := 0) hx hb dX6_leaks_163 (by decide) ?_
                  refine lv_ladd hx hb dX6_leaks_164 ?_
                  refine lv_lstore_n (lv' := [(2, .long (s87.1 + 0)), (5, .int (((gR r98 10) ((gI r98 8).toNatClampNeg)) + 0)), (0, .ref (q 0)), (1, .int a1), (4, .int s87.2.1)]) hx hb dX6_leaks_165 rfl hl (by decide) rfl (fun ls hl => ?_)
                  refine lv_iinc (v := (s87.2.1 + 1)) (lv' := [(4, .int (s87.2.1 + 1)), (2, .long (s87.1 + 0)), (5, .int (((gR r98 10) ((gI r98 8).toNatClampNeg)) + 0)), (0, .ref (q 0)), (1, .int a1)]) hx hb dX6_leaks_166 hl (k := 4) rfl (by rfl) (by decide) rfl (fun ls hl => ?_)
                  refine lv_goto (tgt := 87) hx hb dX6_leaks_169 (by decide) ?_
                  obtain rfl := o_ret hf
                  exact ih87 _ _ (lpK_r h87z) _ _ _ hP hD hS (lv_sub hl [3, 4, 1, 0] rfl) K87_0
                · have hf := o_in c150 hf
                  refine lv_aload_n hx hb dX6_leaks_153 rfl (lv_at hl 1 rfl) ?_
                  refine va_get (ci := 6) (v := .ref (q 11)) (C := RX6) (T := TX6) (N := 26) hx hb hts inlX6 hown hE.1 hP 0 rfl rfl 20 (by decide) (hts _ wB94) (fun _ h9 => h9) rfl dX6_leaks_154 ?_
                  refine lv_iload hx hb dX6_leaks_157 (lv_at hl 4 rfl) ?_
                  obtain ⟨hg159, hf⟩ := gd_s hf
                  refine va_lald (f := (gA r98 0)) hx hb hE.1 hP 11 1 rfl rfl hg159 dX6_leaks_159 ?_
                  refine lv_goto (tgt := 164) hx hb dX6_leaks_160 (by decide) ?_
                  refine lv_ladd hx hb dX6_leaks_164 ?_
                  refine lv_lstore_n (lv' := [(2, .long (s87.1 + ((gA r98 0) (s87.2.1.toNatClampNeg)))), (5, .int (((gR r98 10) ((gI r98 8).toNatClampNeg)) + 0)), (0, .ref (q 0)), (1, .int a1), (4, .int s87.2.1)]) hx hb dX6_leaks_165 rfl hl (by decide) rfl (fun ls hl => ?_)
                  refine lv_iinc (v := (s87.2.1 + 1)) (lv' := [(4, .int (s87.2.1 + 1)), (2, .long (s87.1 + ((gA r98 0) (s87.2.1.toNatClampNeg)))), (5, .int (((gR r98 10) ((gI r98 8).toNatClampNeg)) + 0)), (0, .ref (q 0)), (1, .int a1)]) hx hb dX6_leaks_166 hl (k := 4) rfl (by rfl) (by decide) rfl (fun ls hl => ?_)
                  refine lv_goto (tgt := 87) hx hb dX6_leaks_169 (by decide) ?_
                  obtain rfl := o_ret hf
                  exact ih87 _ _ (lpK_r h87z) _ _ _ hP hD hS (lv_sub hl [3, 4, 1, 0] rfl) K87_0
            · have hf := o_ip c106 hf
              refine lv_iconst (v := 0) hx hb dX6_leaks_109 (by decide) ?_
              refine lv_goto (tgt := 122) hx hb dX6_leaks_110 (by decide) ?_
              refine lv_aload_n hx hb dX6_leaks_122 rfl (lv_at hl 0 rfl) ?_
              refine va_get (ci := 6) (v := .int (gI r98 9)) (C := RX6) (T := TX6) (N := 26) hx hb hts inlX6 hown hE.1 hP 0 rfl rfl 19 (by decide) (hts _ wB561) (fun _ h9 => h9) rfl dX6_leaks_123 ?_
              refine lv_iconst (v := (-1)) hx hb dX6_leaks_126 (by decide) ?_
              refine lv_icmp_ne (tgt := 134) hx hb dX6_leaks_127 (by decide) (fun c127 => ?_) (fun c127 => ?_)
              · have hf := o_in c127 hf
                refine lv_aload_n hx hb dX6_leaks_134 rfl (lv_at hl 0 rfl) ?_
                refine va_get (ci := 6) (v := .ref (q 13)) (C := RX6) (T := TX6) (N := 26) hx hb hts inlX6 hown hE.1 hP 0 rfl rfl 23 (by decide) (hts _ wB96) (fun _ h9 => h9) rfl dX6_leaks_135 ?_
                refine lv_aload_n hx hb dX6_leaks_138 rfl (lv_at hl 0 rfl) ?_
                refine va_get (ci := 6) (v := .int (gI r98 9)) (C := RX6) (T := TX6) (N := 26) hx hb hts inlX6 hown hE.1 hP 0 rfl rfl 19 (by decide) (hts _ wB561) (fun _ h9 => h9) rfl dX6_leaks_139 ?_
                obtain ⟨hg142, hf⟩ := gd_s hf
                refine va_iald (f := (gR r98 10)) hx hb hE.1 hP 13 0 rfl rfl hg142 dX6_leaks_142 ?_
                refine lv_iadd hx hb dX6_leaks_143 ?_
                refine lv_istore (lv' := [(5, .int (0 + ((gR r98 10) ((gI r98 9).toNatClampNeg)))), (0, .ref (q 0)), (1, .int a1), (2, .long s87.1), (4, .int s87.2.1)]) hx hb dX6_leaks_144 hl (by decide) rfl (fun ls hl => ?_)
                refine lv_lload_n hx hb dX6_leaks_146 rfl (lv_at hl 3 rfl) ?_
                refine lv_iload hx hb dX6_leaks_147 (lv_at hl 0 rfl) ?_
                refine lv_iload_n hx hb dX6_leaks_149 rfl (lv_at hl 2 rfl) ?_
                refine lv_icmp_ge (tgt := 163) hx hb dX6_leaks_150 (by decide) (fun c150 => ?_) (fun c150 => ?_)
                · have hf := o_ip c150 hf
                  refine lv_lconst (v := 0) hx hb dX6_leaks_163 (by decide) ?_
                  refine lv_ladd hx hb dX6_leaks_164 ?_
                  refine lv_lstore_n (lv' := [(2, .long (s87.1 + 0)), (5, .int (0 + ((gR r98 10) ((gI r98 9).toNatClampNeg)))), (0, .ref (q 0)), (1, .int a1), (4, .int s87.2.1)]) hx hb dX6_leaks_165 rfl hl (by decide) rfl (fun ls hl => ?_)
                  refine lv_iinc (v := (s87.2.1 + 1)) (lv' := [(4, .int (s87.2.1 + 1)), (2, .long (s87.1 + 0)), (5, .int (0 + ((gR r98 10) ((gI r98 9).toNatClampNeg)))), (0, .ref (q 0)), (1, .int a1)]) hx hb dX6_leaks_166 hl (k := 4) rfl (by rfl) (by decide) rfl (fun ls hl => ?_)
                  refine lv_goto (tgt := 87) hx hb dX6_leaks_169 (by decide) ?_
                  obtain rfl := o_ret hf
                  exact ih87 _ _ (lpK_r h87z) _ _ _ hP hD hS (lv_sub hl [3, 4, 1, 0] rfl) K87_0
                · have hf := o_in c150 hf
                  refine lv_aload_n hx hb dX6_leaks_153 rfl (lv_at hl 1 rfl) ?_
                  refine va_get (ci := 6) (v := .ref (q 11)) (C := RX6) (T := TX6) (N := 26) hx hb hts inlX6 hown hE.1 hP 0 rfl rfl 20 (by decide) (hts _ wB94) (fun _ h9 => h9) rfl dX6_leaks_154 ?_
                  refine lv_iload hx hb dX6_leaks_157 (lv_at hl 4 rfl) ?_
                  obtain ⟨hg159, hf⟩ := gd_s hf
                  refine va_lald (f := (gA r98 0)) hx hb hE.1 hP 11 1 rfl rfl hg159 dX6_leaks_159 ?_
                  refine lv_goto (tgt := 164) hx hb dX6_leaks_160 (by decide) ?_
                  refine lv_ladd hx hb dX6_leaks_164 ?_
                  refine lv_lstore_n (lv' := [(2, .long (s87.1 + ((gA r98 0) (s87.2.1.toNatClampNeg)))), (5, .int (0 + ((gR r98 10) ((gI r98 9).toNatClampNeg)))), (0, .ref (q 0)), (1, .int a1), (4, .int s87.2.1)]) hx hb dX6_leaks_165 rfl hl (by decide) rfl (fun ls hl => ?_)
                  refine lv_iinc (v := (s87.2.1 + 1)) (lv' := [(4, .int (s87.2.1 + 1)), (2, .long (s87.1 + ((gA r98 0) (s87.2.1.toNatClampNeg)))), (5, .int (0 + ((gR r98 10) ((gI r98 9).toNatClampNeg)))), (0, .ref (q 0)), (1, .int a1)]) hx hb dX6_leaks_166 hl (k := 4) rfl (by rfl) (by decide) rfl (fun ls hl => ?_)
                  refine lv_goto (tgt := 87) hx hb dX6_leaks_169 (by decide) ?_
                  obtain rfl := o_ret hf
                  exact ih87 _ _ (lpK_r h87z) _ _ _ hP hD hS (lv_sub hl [3, 4, 1, 0] rfl) K87_0
              · have hf := o_ip c127 hf
                refine lv_iconst (v := 0) hx hb dX6_leaks_130 (by decide) ?_
                refine lv_goto (tgt := 143) hx hb dX6_leaks_131 (by decide) ?_
                refine lv_iadd hx hb dX6_leaks_143 ?_
                refine lv_istore (lv' := [(5, .int (0 + 0)), (0, .ref (q 0)), (1, .int a1), (2, .long s87.1), (4, .int s87.2.1)]) hx hb dX6_leaks_144 hl (by decide) rfl (fun ls hl => ?_)
                refine lv_lload_n hx hb dX6_leaks_146 rfl (lv_at hl 3 rfl) ?_
                refine lv_iload hx hb dX6_leaks_147 (lv_at hl 0 rfl) ?_
                refine lv_iload_n hx hb dX6_leaks_149 rfl (lv_at hl 2 rfl) ?_
                refine lv_icmp_ge (tgt := 163) hx hb dX6_leaks_150 (by decide) (fun c150 => ?_) (fun c150 => ?_)
                · have hf := o_ip c150 hf
                  refine lv_lconst (v := 0) hx hb dX6_leaks_163 (by decide) ?_
                  refine lv_ladd hx hb dX6_leaks_164 ?_
                  refine lv_lstore_n (lv' := [(2, .long (s87.1 + 0)), (5, .int (0 + 0)), (0, .ref (q 0)), (1, .int a1), (4, .int s87.2.1)]) hx hb dX6_leaks_165 rfl hl (by decide) rfl (fun ls hl => ?_)
                  refine lv_iinc (v := (s87.2.1 + 1)) (lv' := [(4, .int (s87.2.1 + 1)), (2, .long (s87.1 + 0)), (5, .int (0 + 0)), (0, .ref (q 0)), (1, .int a1)]) hx hb dX6_leaks_166 hl (k := 4) rfl (by rfl) (by decide) rfl (fun ls hl => ?_)
                  refine lv_goto (tgt := 87) hx hb dX6_leaks_169 (by decide) ?_
                  obtain rfl := o_ret hf
                  exact ih87 _ _ (lpK_r h87z) _ _ _ hP hD hS (lv_sub hl [3, 4, 1, 0] rfl) K87_0
                · have hf := o_in c150 hf
                  refine lv_aload_n hx hb dX6_leaks_153 rfl (lv_at hl 1 rfl) ?_
                  refine va_get (ci := 6) (v := .ref (q 11)) (C := RX6) (T := TX6) (N := 26) hx hb hts inlX6 hown hE.1 hP 0 rfl rfl 20 (by decide) (hts _ wB94) (fun _ h9 => h9) rfl dX6_leaks_154 ?_
                  refine lv_iload hx hb dX6_leaks_157 (lv_at hl 4 rfl) ?_
                  obtain ⟨hg159, hf⟩ := gd_s hf
                  refine va_lald (f := (gA r98 0)) hx hb hE.1 hP 11 1 rfl rfl hg159 dX6_leaks_159 ?_
                  refine lv_goto (tgt := 164) hx hb dX6_leaks_160 (by decide) ?_
                  refine lv_ladd hx hb dX6_leaks_164 ?_
                  refine lv_lstore_n (lv' := [(2, .long (s87.1 + ((gA r98 0) (s87.2.1.toNatClampNeg)))), (5, .int (0 + 0)), (0, .ref (q 0)), (1, .int a1), (4, .int s87.2.1)]) hx hb dX6_leaks_165 rfl hl (by decide) rfl (fun ls hl => ?_)
                  refine lv_iinc (v := (s87.2.1 + 1)) (lv' := [(4, .int (s87.2.1 + 1)), (2, .long (s87.1 + ((gA r98 0) (s87.2.1.toNatClampNeg)))), (5, .int (0 + 0)), (0, .ref (q 0)), (1, .int a1)]) hx hb dX6_leaks_166 hl (k := 4) rfl (by rfl) (by decide) rfl (fun ls hl => ?_)
                  refine lv_goto (tgt := 87) hx hb dX6_leaks_169 (by decide) ?_
                  obtain rfl := o_ret hf
                  exact ih87 _ _ (lpK_r h87z) _ _ _ hP hD hS (lv_sub hl [3, 4, 1, 0] rfl) K87_0
      obtain ⟨e87, h87q, hf⟩ := o_bs hf
      obtain ⟨n87v, h87q⟩ := lpF_ex h87q
      refine L87 n87v _ e87 h87q _ _ _ hP hD hS (lv_sub hl [2, 3, 1, 0] rfl) ?_
      intro H locs ls hP hD hS hl
      refine lv_aload_n hx hb dX6_leaks_172 rfl (lv_at hl 0 rfl) ?_
      refine lv_lload_n hx hb dX6_leaks_173 rfl (lv_at hl 1 rfl) ?_
      refine lv_aload_n hx hb dX6_leaks_174 rfl (lv_at hl 0 rfl) ?_
      refine va_get (ci := 6) (v := .long (gL e87.2 0)) (C := RX6) (T := TX6) (N := 26) hx hb hts inlX6 hown hE.1 hP 0 rfl rfl 21 (by decide) (hts _ wB562) (fun _ h9 => h9) rfl dX6_leaks_175 ?_
      obtain ⟨r178, h178r, hf⟩ := o_bs hf
      refine k_goi (va_runV (As := [.long e87.1, .long (gL e87.2 0)]) (rest := []) ⟨hx, hb, hml, hown, hts⟩ (zX6_tells l D cy sa q rest H.size e87.2 e87.1 (gL e87.2 0) r178 h178r) (cwV 2 hts (gB_V wB580 wB581 wB582 wB5 wB583) rfl rfl rfl (by decide +kernel) ⟨Nat.le_of_ble_eq_true rfl, Nat.le_of_ble_eq_true rfl⟩) ⟨kP.blind, k_recv hE hP (ci := 6) (q0 := 0) rfl rfl, k_pre hP hD hS hE hA⟩ rfl rfl hl.1 rfl (lv_room (Nat.le_of_ble_eq_true rfl)) dX6_leaks_178 ⟨Nat.zero_le _, Nat.zero_le _⟩) hD hS hA (fun H locs hP hD hS => ?_)
      obtain rfl := o_ret hf
      exact k_iret hx hb hr hP hD hS (Nat.zero_le _) (Nat.zero_le _) hlocks dX6_leaks_181
    · have hf := o_ip c21 hf
      refine lv_aload_n hx hb dX6_leaks_24 rfl (lv_at hl 0 rfl) ?_
      obtain ⟨r25, h25r, hf⟩ := o_bs hf
      refine k_goi (va_runV (As := []) (rest := []) ⟨hx, hb, hml, hown, hts⟩ (zX6_no l D cy sa q rest H.size r18.2  r25 h25r) (cwV 0 hts (gB_V wB328 wB329 wB330 wB5 wB331) rfl rfl rfl (by decide +kernel) ⟨Nat.le_of_ble_eq_true rfl, Nat.le_of_ble_eq_true rfl⟩) ⟨kP.blind, k_recv hE hP (ci := 6) (q0 := 0) rfl rfl, k_pre hP hD hS hE hA⟩ rfl rfl hl.1 rfl (lv_room (Nat.le_of_ble_eq_true rfl)) dX6_leaks_25 ⟨Nat.zero_le _, Nat.zero_le _⟩) hD hS hA (fun H locs hP hD hS => ?_)
      obtain rfl := o_ret hf
      exact k_iret hx hb hr hP hD hS (Nat.zero_le _) (Nat.zero_le _) hlocks dX6_leaks_28
  · have hf := o_ip c9 hf
    refine lv_aload_n hx hb dX6_leaks_12 rfl (lv_at hl 0 rfl) ?_
    obtain ⟨r13, h13r, hf⟩ := o_bs hf
    refine k_goi (va_runV (As := []) (rest := []) ⟨hx, hb, hml, hown, hts⟩ (zX6_bad l D cy sa q rest H.size u  r13 h13r) (cwV 0 hts (gB_V wB144 wB145 wB146 wB5 wB147) rfl rfl rfl (by decide +kernel) ⟨Nat.le_of_ble_eq_true rfl, Nat.le_of_ble_eq_true rfl⟩) ⟨kP.blind, k_recv hE hP (ci := 6) (q0 := 0) rfl rfl, k_pre hP hD hS hE hA⟩ rfl rfl hl.1 rfl (lv_room (Nat.le_of_ble_eq_true rfl)) dX6_leaks_13 ⟨Nat.zero_le _, Nat.zero_le _⟩) hD hS hA (fun H locs hP hD hS => ?_)
    obtain rfl := o_ret hf
    exact k_iret hx hb hr hP hD hS (Nat.zero_le _) (Nat.zero_le _) hlocks dX6_leaks_16
noncomputable def mX6_likeliest_s16 (u : KS) (s16 : Int32 × Int32) : Option ((Int32) ⊕ (Int32 × Int32)) :=
  if 2731 ≤ s16.2 then
  (some (.inl s16.1))
  else
  (gd (inb s16.2 2731) (gd (inb s16.1 2731) (if (lg_cmp ((gA u 0) (s16.2.toNatClampNeg)) ((gA u 0) (s16.1.toNatClampNeg))) ≤ 0 then
  (some (.inr (s16.1, (s16.2 + 1))))
  else
  (some (.inr (s16.2, (s16.2 + 1)))))))
noncomputable def mX6_likeliest (u : KS) : Option (Int32 × KS) :=
  (mX6_weighs u).bind fun r1 =>
  if r1.1 = 0 then
  ((mX6_no r1.2).bind fun r8 =>
  some (r8.1, r8.2))
  else
  ((lpF (mX6_likeliest_s16 r1.2) (0, 1)).bind fun e16 =>
  some (e16, r1.2))
abbrev rmX6_likeliest : Room := { frames := 6, cells := 0, slots := 0, locals := 143 }
set_option maxRecDepth 100000 in
set_option maxHeartbeats 4000000 in
theorem zX6_likeliest (l : Launch) (D : va_G) (cy : Nat → ClassId) (sa : Nat → Nat) (q : Nat → Nat) (rest : va_W) (sz : Nat) (u : KS) (res : Int32 × KS) (hf : mX6_likeliest u = some res) : kMi l yX6_likeliest (wsK yX6_likeliest cX6_likeliest 3 (some .int)) rmX6_likeliest D cy sa (WM q cy u ++ rest) sz [.ref (q 0)] res.1 (WM q cy res.2 ++ rest) 0 0 := by
  refine kM_of (Qc := fun A => kQi D A res.1 (WM q cy res.2 ++ rest)) (cc := cX6_likeliest) (maxL := 3) (ret := (some .int)) (by decide) (Nat.le_of_ble_eq_true rfl) ?_
  intro p e s m below meth c A hx hb hml hr hts hown hlocks hin hA hP hD hS hE hsz ls hl
  have hown : s.vm.findClass RX6 = some m.cls := hown
  obtain ⟨H, hH0⟩ : ∃ H, H = s.heap := ⟨_, rfl⟩
  obtain ⟨locs, hlocs0⟩ : ∃ locs : List Loc, locs = [] := ⟨_, rfl⟩
  have hP : va_P D vwCl (WM q cy u ++ rest) H := by rw [hH0]; exact hP
  have hS : va_S A s.heap H locs := by rw [hH0, hlocs0]; exact hS
  have hl : lv_has ls 3 [(0, .ref (q 0))] := hl
  suffices hgoal : W p l e rmX6_likeliest s m ([.ref (q 0)] : List Value).toArray below meth c H locs 0 0 (MQ below (kQi D A res.1 (WM q cy res.2 ++ rest)) ([.ref (q 0)] : List Value).toArray s 0 0 A) (F0 m 0 ls []) by rw [hH0, hlocs0] at hgoal; exact hgoal
  clear hH0 hlocs0
  unfold mX6_likeliest at hf
  refine lv_aload_n hx hb dX6_likeliest_0 rfl (lv_at hl 0 rfl) ?_
  obtain ⟨r1, h1r, hf⟩ := o_bs hf
  refine k_goi (va_runV (As := []) (rest := []) ⟨hx, hb, hml, hown, hts⟩ (zX6_weighs l D cy sa q rest H.size u  r1 h1r) (cwV 0 hts (gB_V wB563 wB564 wB565 wB5 wB566) rfl rfl rfl (by decide +kernel) ⟨Nat.le_of_ble_eq_true rfl, Nat.le_of_ble_eq_true rfl⟩) ⟨kP.blind, k_recv hE hP (ci := 6) (q0 := 0) rfl rfl, k_pre hP hD hS hE hA⟩ rfl rfl hl.1 rfl (lv_room (Nat.le_of_ble_eq_true rfl)) dX6_likeliest_1 ⟨Nat.zero_le _, Nat.zero_le _⟩) hD hS hA (fun H locs hP hD hS => ?_)
  refine lv_if_ne (tgt := 12) hx hb dX6_likeliest_4 (by decide) (fun c4 => ?_) (fun c4 => ?_)
  · have hf := o_in c4 hf
    refine lv_iconst (v := 0) hx hb dX6_likeliest_12 (by decide) ?_
    refine lv_istore_n (lv' := [(1, .int 0), (0, .ref (q 0))]) hx hb dX6_likeliest_13 rfl hl (by decide) rfl (fun ls hl => ?_)
    refine lv_iconst (v := 1) hx hb dX6_likeliest_14 (by decide) ?_
    refine lv_istore_n (lv' := [(2, .int 1), (1, .int 0), (0, .ref (q 0))]) hx hb dX6_likeliest_15 rfl hl (by decide) rfl (fun ls hl => ?_)
    have L16 : ∀ (n16v : Nat) (s16 : Int32 × Int32) (e16 : Int32), lpO (mX6_likeliest_s16 r1.2) n16v s16 = some e16 → ∀ (H : Heap) (locs : List Loc) (ls : Array Slot), va_P D vwCl (WM q cy r1.2 ++ rest) H → va_D A (WM q cy r1.2 ++ rest) → va_S A s.heap H locs → lv_has ls 3 [(0, .ref (q 0)), (1, .int s16.1), (2, .int s16.2)] → (∀ (H : Heap) (locs : List Loc) (ls : Array Slot), va_P D vwCl (WM q cy r1.2 ++ rest) H → va_D A (WM q cy r1.2 ++ rest) → va_S A s.heap H locs → lv_has ls 3 [(1, .int e16)] → W p l e rmX6_likeliest s m ([.ref (q 0)] : List Value).toArray below meth c H locs 0 0 (MQ below (kQi D A res.1 (WM q cy res.2 ++ rest)) ([.ref (q 0)] : List Value).toArray s 0 0 A) (F0 m 51 ls [])) → W p l e rmX6_likeliest s m ([.ref (q 0)] : List Value).toArray below meth c H locs 0 0 (MQ below (kQi D A res.1 (WM q cy res.2 ++ rest)) ([.ref (q 0)] : List Value).toArray s 0 0 A) (F0 m 16 ls []) := by
      intro n16v
      induction n16v with
      | zero => intro s16 e16 h; exact (lpO_z h).elim
      | succ n16v ih16 =>
        intro s16 e16 h16z H locs ls hP hD hS hl K16_0
        obtain ⟨x16, hf, h16z⟩ := lpO_s h16z
        unfold mX6_likeliest_s16 at hf
        refine lv_iload_n hx hb dX6_likeliest_16 rfl (lv_at hl 2 rfl) ?_
        refine lv_sipush (v := 2731) hx hb dX6_likeliest_17 (by decide) ?_
        refine lv_icmp_ge (tgt := 51) hx hb dX6_likeliest_20 (by decide) (fun c20 => ?_) (fun c20 => ?_)
        · have hf := o_ip c20 hf
          obtain rfl := o_ret hf
          obtain rfl := lpK_l h16z
          exact K16_0 _ _ _ hP hD hS (lv_sub hl [1] rfl)
        · have hf := o_in c20 hf
          refine lv_aload_n hx hb dX6_likeliest_23 rfl (lv_at hl 0 rfl) ?_
          refine va_get (ci := 6) (v := .ref (q 11)) (C := RX6) (T := TX6) (N := 26) hx hb hts inlX6 hown hE.1 hP 0 rfl rfl 20 (by decide) (hts _ wB94) (fun _ h9 => h9) rfl dX6_likeliest_24 ?_
          refine lv_iload_n hx hb dX6_likeliest_27 rfl (lv_at hl 2 rfl) ?_
          obtain ⟨hg28, hf⟩ := gd_s hf
          refine va_lald (f := (gA r1.2 0)) hx hb hE.1 hP 11 1 rfl rfl hg28 dX6_likeliest_28 ?_
          refine lv_aload_n hx hb dX6_likeliest_29 rfl (lv_at hl 0 rfl) ?_
          refine va_get (ci := 6) (v := .ref (q 11)) (C := RX6) (T := TX6) (N := 26) hx hb hts inlX6 hown hE.1 hP 0 rfl rfl 20 (by decide) (hts _ wB94) (fun _ h9 => h9) rfl dX6_likeliest_30 ?_
          refine lv_iload_n hx hb dX6_likeliest_33 rfl (lv_at hl 1 rfl) ?_
          obtain ⟨hg34, hf⟩ := gd_s hf
          refine va_lald (f := (gA r1.2 0)) hx hb hE.1 hP 11 1 rfl rfl hg34 dX6_likeliest_34 ?_
          refine W.lcmp hx hb dX6_likeliest_35 ?_
          refine lv_if_le (tgt := 43) hx hb dX6_likeliest_36 (by decide) (fun c36 => ?_) (fun c36 => ?_)
          · have hf := o_ip c36 hf
            refine lv_iload_n hx hb dX6_likeliest_43 rfl (lv_at hl 1 rfl) ?_
            refine lv_istore_n (lv' := [(1, .int s16.1), (0, .ref (q 0)), (2, .int s16.2)]) hx hb dX6_likeliest_44 rfl hl (by decide) rfl (fun ls hl => ?_)
            refine lv_iinc (v := (s16.2 + 1)) (lv' := [(2, .int (s16.2 + 1)), (1, .int s16.1), (0, .ref (q 0))]) hx hb dX6_likeliest_45 hl (k := 2) rfl (by rfl) (by decide) rfl (fun ls hl => ?_)
            refine lv_goto (tgt := 16) hx hb dX6_likeliest_48 (by decide) ?_
            obtain rfl := o_ret hf
            exact ih16 _ _ (lpK_r h16z) _ _ _ hP hD hS (lv_sub hl [2, 1, 0] rfl) K16_0
          · have hf := o_in c36 hf
            refine lv_iload_n hx hb dX6_likeliest_39 rfl (lv_at hl 2 rfl) ?_
            refine lv_goto (tgt := 44) hx hb dX6_likeliest_40 (by decide) ?_
            refine lv_istore_n (lv' := [(1, .int s16.2), (0, .ref (q 0)), (2, .int s16.2)]) hx hb dX6_likeliest_44 rfl hl (by decide) rfl (fun ls hl => ?_)
            refine lv_iinc (v := (s16.2 + 1)) (lv' := [(2, .int (s16.2 + 1)), (1, .int s16.2), (0, .ref (q 0))]) hx hb dX6_likeliest_45 hl (k := 2) rfl (by rfl) (by decide) rfl (fun ls hl => ?_)
            refine lv_goto (tgt := 16) hx hb dX6_likeliest_48 (by decide) ?_
            obtain rfl := o_ret hf
            exact ih16 _ _ (lpK_r h16z) _ _ _ hP hD hS (lv_sub hl [2, 1, 0] rfl) K16_0
    obtain ⟨e16, h16q, hf⟩ := o_bs hf
    obtain ⟨n16v, h16q⟩ := lpF_ex h16q
    refine L16 n16v _ e16 h16q _ _ _ hP hD hS (lv_sub hl [2, 1, 0] rfl) ?_
    intro H locs ls hP hD hS hl
    refine lv_iload_n hx hb dX6_likeliest_51 rfl (lv_at hl 0 rfl) ?_
    obtain rfl := o_ret hf
    exact k_iret hx hb hr hP hD hS (Nat.zero_le _) (Nat.zero_le _) hlocks dX6_likeliest_52
  · have hf := o_ip c4 hf
    refine lv_aload_n hx hb dX6_likeliest_7 rfl (lv_at hl 0 rfl) ?_
    obtain ⟨r8, h8r, hf⟩ := o_bs hf
    refine k_goi (va_runV (As := []) (rest := []) ⟨hx, hb, hml, hown, hts⟩ (zX6_no l D cy sa q rest H.size r1.2  r8 h8r) (cwV 0 hts (gB_V wB328 wB329 wB330 wB5 wB331) rfl rfl rfl (by decide +kernel) ⟨Nat.le_of_ble_eq_true rfl, Nat.le_of_ble_eq_true rfl⟩) ⟨kP.blind, k_recv hE hP (ci := 6) (q0 := 0) rfl rfl, k_pre hP hD hS hE hA⟩ rfl rfl hl.1 rfl (lv_room (Nat.le_of_ble_eq_true rfl)) dX6_likeliest_8 ⟨Nat.zero_le _, Nat.zero_le _⟩) hD hS hA (fun H locs hP hD hS => ?_)
    obtain rfl := o_ret hf
    exact k_iret hx hb hr hP hD hS (Nat.zero_le _) (Nat.zero_le _) hlocks dX6_likeliest_11
noncomputable def mX6_limb (u : KS) (a1 : Int32) (a2 : Int32) : Option (Int32 × KS) :=
  (mX6_in (a1.toInt64) 0 1).bind fun r4 =>
  if r4 = 0 then
  ((mX6_bad u).bind fun r15 =>
  some (r15.1, r15.2))
  else
  (if 0 ≤ a2 then
  (gd (inb a1 7) (if ((gR u 5) (a1.toNatClampNeg)) ≤ a2 then
  (some ((-1), u))
  else
  (gd (inb ((12 * a1) + a2) 84) (some (((gR u 4) (((12 * a1) + a2).toNatClampNeg)), u)))))
  else
  ((mX6_bad u).bind fun r15 =>
  some (r15.1, r15.2)))
abbrev rmX6_limb : Room := { frames := 2, cells := 0, slots := 0, locals := 42 }
set_option maxRecDepth 100000 in
set_option maxHeartbeats 4000000 in
theorem zX6_limb (l : Launch) (D : va_G) (cy : Nat → ClassId) (sa : Nat → Nat) (q : Nat → Nat) (rest : va_W) (sz : Nat) (u : KS) (a1 : Int32) (a2 : Int32) (res : Int32 × KS) (hf : mX6_limb u a1 a2 = some res) : kMi l yX6_limb (wsK yX6_limb cX6_limb 3 (some .int)) rmX6_limb D cy sa (WM q cy u ++ rest) sz [.ref (q 0), .int a1, .int a2] res.1 (WM q cy res.2 ++ rest) 0 0 := by
  refine kM_of (Qc := fun A => kQi D A res.1 (WM q cy res.2 ++ rest)) (cc := cX6_limb) (maxL := 3) (ret := (some .int)) (by decide) (Nat.le_of_ble_eq_true rfl) ?_
  intro p e s m below meth c A hx hb hml hr hts hown hlocks hin hA hP hD hS hE hsz ls hl
  have hown : s.vm.findClass RX6 = some m.cls := hown
  obtain ⟨H, hH0⟩ : ∃ H, H = s.heap := ⟨_, rfl⟩
  obtain ⟨locs, hlocs0⟩ : ∃ locs : List Loc, locs = [] := ⟨_, rfl⟩
  have hP : va_P D vwCl (WM q cy u ++ rest) H := by rw [hH0]; exact hP
  have hS : va_S A s.heap H locs := by rw [hH0, hlocs0]; exact hS
  have hl : lv_has ls 3 [(0, .ref (q 0)), (1, .int a1), (2, .int a2)] := hl
  suffices hgoal : W p l e rmX6_limb s m ([.ref (q 0), .int a1, .int a2] : List Value).toArray below meth c H locs 0 0 (MQ below (kQi D A res.1 (WM q cy res.2 ++ rest)) ([.ref (q 0), .int a1, .int a2] : List Value).toArray s 0 0 A) (F0 m 0 ls []) by rw [hH0, hlocs0] at hgoal; exact hgoal
  clear hH0 hlocs0
  unfold mX6_limb at hf
  refine lv_iload_n hx hb dX6_limb_0 rfl (lv_at hl 1 rfl) ?_
  refine lv_i2l (v := (a1.toInt64)) hx hb dX6_limb_1 rfl ?_
  refine lv_lconst (v := 0) hx hb dX6_limb_2 (by decide) ?_
  refine lv_lconst (v := 1) hx hb dX6_limb_3 (by decide) ?_
  obtain ⟨r4, h4r, hf⟩ := o_bs hf
  refine k_goi (va_runS (As := [.long (a1.toInt64), .long 0, .long 1]) (rest := []) ⟨hx, hb, hml, hown, hts⟩ (zX6_in l D cy sa (WM q cy u ++ rest) H.size (a1.toInt64) 0 1  r4  h4r) (va_cwS 3 hts (gB_S wB141 wB142 wB5 wB143) rfl rfl rfl (by decide +kernel) ⟨Nat.le_of_ble_eq_true rfl, Nat.le_of_ble_eq_true rfl⟩) ⟨kP.blind, k_pre hP hD hS hE hA⟩ rfl rfl hl.1 rfl (lv_room (Nat.le_of_ble_eq_true rfl)) dX6_limb_4 ⟨Nat.zero_le _, Nat.zero_le _⟩) hD hS hA (fun H locs hP hD hS => ?_)
  refine lv_if_eq (tgt := 14) hx hb dX6_limb_7 (by decide) (fun c7 => ?_) (fun c7 => ?_)
  · have hf := o_ip c7 hf
    refine lv_aload_n hx hb dX6_limb_14 rfl (lv_at hl 0 rfl) ?_
    obtain ⟨r15, h15r, hf⟩ := o_bs hf
    refine k_goi (va_runV (As := []) (rest := []) ⟨hx, hb, hml, hown, hts⟩ (zX6_bad l D cy sa q rest H.size u  r15 h15r) (cwV 0 hts (gB_V wB144 wB145 wB146 wB5 wB147) rfl rfl rfl (by decide +kernel) ⟨Nat.le_of_ble_eq_true rfl, Nat.le_of_ble_eq_true rfl⟩) ⟨kP.blind, k_recv hE hP (ci := 6) (q0 := 0) rfl rfl, k_pre hP hD hS hE hA⟩ rfl rfl hl.1 rfl (lv_room (Nat.le_of_ble_eq_true rfl)) dX6_limb_15 ⟨Nat.zero_le _, Nat.zero_le _⟩) hD hS hA (fun H locs hP hD hS => ?_)
    obtain rfl := o_ret hf
    exact k_iret hx hb hr hP hD hS (Nat.zero_le _) (Nat.zero_le _) hlocks dX6_limb_18
  · have hf := o_in c7 hf
    refine lv_iload_n hx hb dX6_limb_10 rfl (lv_at hl 2 rfl) ?_
    refine lv_if_ge (tgt := 19) hx hb dX6_limb_11 (by decide) (fun c11 => ?_) (fun c11 => ?_)
    · have hf := o_ip c11 hf
      refine lv_iload_n hx hb dX6_limb_19 rfl (lv_at hl 2 rfl) ?_
      refine lv_aload_n hx hb dX6_limb_20 rfl (lv_at hl 0 rfl) ?_
      refine va_get (ci := 6) (v := .ref (q 6)) (C := RX6) (T := TX6) (N := 26) hx hb hts inlX6 hown hE.1 hP 0 rfl rfl 6 (by decide) (hts _ wB89) (fun _ h9 => h9) rfl dX6_limb_21 ?_
      refine lv_iload_n hx hb dX6_limb_24 rfl (lv_at hl 1 rfl) ?_
      obtain ⟨hg25, hf⟩ := gd_s hf
      refine va_iald (f := (gR u 5)) hx hb hE.1 hP 6 0 rfl rfl hg25 dX6_limb_25 ?_
      refine lv_icmp_ge (tgt := 43) hx hb dX6_limb_26 (by decide) (fun c26 => ?_) (fun c26 => ?_)
      · have hf := o_ip c26 hf
        refine lv_iconst (v := (-1)) hx hb dX6_limb_43 (by decide) ?_
        obtain rfl := o_ret hf
        exact k_iret hx hb hr hP hD hS (Nat.zero_le _) (Nat.zero_le _) hlocks dX6_limb_44
      · have hf := o_in c26 hf
        refine lv_aload_n hx hb dX6_limb_29 rfl (lv_at hl 0 rfl) ?_
        refine va_get (ci := 6) (v := .ref (q 5)) (C := RX6) (T := TX6) (N := 26) hx hb hts inlX6 hown hE.1 hP 0 rfl rfl 5 (by decide) (hts _ wB88) (fun _ h9 => h9) rfl dX6_limb_30 ?_
        refine lv_bipush (v := 12) hx hb dX6_limb_33 (by decide) ?_
        refine lv_iload_n hx hb dX6_limb_35 rfl (lv_at hl 1 rfl) ?_
        refine lv_imul hx hb dX6_limb_36 ?_
        refine lv_iload_n hx hb dX6_limb_37 rfl (lv_at hl 2 rfl) ?_
        refine lv_iadd hx hb dX6_limb_38 ?_
        obtain ⟨hg39, hf⟩ := gd_s hf
        refine va_iald (f := (gR u 4)) hx hb hE.1 hP 5 0 rfl rfl hg39 dX6_limb_39 ?_
        refine lv_goto (tgt := 44) hx hb dX6_limb_40 (by decide) ?_
        obtain rfl := o_ret hf
        exact k_iret hx hb hr hP hD hS (Nat.zero_le _) (Nat.zero_le _) hlocks dX6_limb_44
    · have hf := o_in c11 hf
      refine lv_aload_n hx hb dX6_limb_14 rfl (lv_at hl 0 rfl) ?_
      obtain ⟨r15, h15r, hf⟩ := o_bs hf
      refine k_goi (va_runV (As := []) (rest := []) ⟨hx, hb, hml, hown, hts⟩ (zX6_bad l D cy sa q rest H.size u  r15 h15r) (cwV 0 hts (gB_V wB144 wB145 wB146 wB5 wB147) rfl rfl rfl (by decide +kernel) ⟨Nat.le_of_ble_eq_true rfl, Nat.le_of_ble_eq_true rfl⟩) ⟨kP.blind, k_recv hE hP (ci := 6) (q0 := 0) rfl rfl, k_pre hP hD hS hE hA⟩ rfl rfl hl.1 rfl (lv_room (Nat.le_of_ble_eq_true rfl)) dX6_limb_15 ⟨Nat.zero_le _, Nat.zero_le _⟩) hD hS hA (fun H locs hP hD hS => ?_)
      obtain rfl := o_ret hf
      exact k_iret hx hb hr hP hD hS (Nat.zero_le _) (Nat.zero_le _) hlocks dX6_limb_18
noncomputable def mX6_look (u : KS) (a1 : Int32) (a2 : Int32) (a3 : Int32) (a4 : Int32) : Option (Int32 × KS) :=
  (mX6_in (a1.toInt64) 0 119).bind fun r6 =>
  if r6 = 0 then
  ((mX6_bad u).bind fun r52 =>
  some (r52.1, r52.2))
  else
  ((mX6_in (a2.toInt64) 0 3).bind fun r18 =>
  if r18 = 0 then
  ((mX6_bad u).bind fun r52 =>
  some (r52.1, r52.2))
  else
  ((mX6_in (a3.toInt64) (-1) 3).bind fun r32 =>
  if r32 = 0 then
  ((mX6_bad u).bind fun r52 =>
  some (r52.1, r52.2))
  else
  ((mX6_in (a4.toInt64) 0 2).bind fun r45 =>
  if r45 = 0 then
  ((mX6_bad u).bind fun r52 =>
  some (r52.1, r52.2))
  else
  (if ((gR u 0) ((1 : Int32).toNatClampNeg)) = 8 then
  ((mX6_full u).bind fun r68 =>
  some (r68.1, r68.2))
  else
  (gd (inb (20 + (4 * ((gR u 0) ((1 : Int32).toNatClampNeg)))) 200) (gd (inb ((20 + (4 * ((gR u 0) ((1 : Int32).toNatClampNeg)))) + 1) 200) (gd (inb ((20 + (4 * ((gR u 0) ((1 : Int32).toNatClampNeg)))) + 2) 200) (gd (inb ((20 + (4 * ((gR u 0) ((1 : Int32).toNatClampNeg)))) + 3) 200) (some ((((upd (upd (upd (upd (upd (gR u 0) ((20 + (4 * ((gR u 0) ((1 : Int32).toNatClampNeg)))).toNatClampNeg) a1) (((20 + (4 * ((gR u 0) ((1 : Int32).toNatClampNeg)))) + 1).toNatClampNeg) a2) (((20 + (4 * ((gR u 0) ((1 : Int32).toNatClampNeg)))) + 2).toNatClampNeg) a3) (((20 + (4 * ((gR u 0) ((1 : Int32).toNatClampNeg)))) + 3).toNatClampNeg) a4) ((1 : Int32).toNatClampNeg) (((upd (upd (upd (upd (gR u 0) ((20 + (4 * ((gR u 0) ((1 : Int32).toNatClampNeg)))).toNatClampNeg) a1) (((20 + (4 * ((gR u 0) ((1 : Int32).toNatClampNeg)))) + 1).toNatClampNeg) a2) (((20 + (4 * ((gR u 0) ((1 : Int32).toNatClampNeg)))) + 2).toNatClampNeg) a3) (((20 + (4 * ((gR u 0) ((1 : Int32).toNatClampNeg)))) + 3).toNatClampNeg) a4) ((1 : Int32).toNatClampNeg)) + 1)) ((1 : Int32).toNatClampNeg)) - 1), (sR u 0 (upd (upd (upd (upd (upd (gR u 0) ((20 + (4 * ((gR u 0) ((1 : Int32).toNatClampNeg)))).toNatClampNeg) a1) (((20 + (4 * ((gR u 0) ((1 : Int32).toNatClampNeg)))) + 1).toNatClampNeg) a2) (((20 + (4 * ((gR u 0) ((1 : Int32).toNatClampNeg)))) + 2).toNatClampNeg) a3) (((20 + (4 * ((gR u 0) ((1 : Int32).toNatClampNeg)))) + 3).toNatClampNeg) a4) ((1 : Int32).toNatClampNeg) (((upd (upd (upd (upd (gR u 0) ((20 + (4 * ((gR u 0) ((1 : Int32).toNatClampNeg)))).toNatClampNeg) a1) (((20 + (4 * ((gR u 0) ((1 : Int32).toNatClampNeg)))) + 1).toNatClampNeg) a2) (((20 + (4 * ((gR u 0) ((1 : Int32).toNatClampNeg)))) + 2).toNatClampNeg) a3) (((20 + (4 * ((gR u 0) ((1 : Int32).toNatClampNeg)))) + 3).toNatClampNeg) a4) ((1 : Int32).toNatClampNeg)) + 1)))))))))))))
abbrev rmX6_look : Room := { frames := 2, cells := 0, slots := 0, locals := 42 }
set_option maxRecDepth 100000 in
set_option maxHeartbeats 4000000 in
theorem zX6_look (l : Launch) (D : va_G) (cy : Nat → ClassId) (sa : Nat → Nat) (q : Nat → Nat) (rest : va_W) (sz : Nat) (u : KS) (a1 : Int32) (a2 : Int32) (a3 : Int32) (a4 : Int32) (res : Int32 × KS) (hf : mX6_look u a1 a2 a3 a4 = some res) : kMi l yX6_look (wsK yX6_look cX6_look 6 (some .int)) rmX6_look D cy sa (WM q cy u ++ rest) sz [.ref (q 0), .int a1, .int a2, .int a3, .int a4] res.1 (WM q cy res.2 ++ rest) 0 0 := by
  refine kM_of (Qc := fun A => kQi D A res.1 (WM q cy res.2 ++ rest)) (cc := cX6_look) (maxL := 6) (ret := (some .int)) (by decide) (Nat.le_of_ble_eq_true rfl) ?_
  intro p e s m below meth c A hx hb hml hr hts hown hlocks hin hA hP hD hS hE hsz ls hl
  have hown : s.vm.findClass RX6 = some m.cls := hown
  obtain ⟨H, hH0⟩ : ∃ H, H = s.heap := ⟨_, rfl⟩
  obtain ⟨locs, hlocs0⟩ : ∃ locs : List Loc, locs = [] := ⟨_, rfl⟩
  have hP : va_P D vwCl (WM q cy u ++ rest) H := by rw [hH0]; exact hP
  have hS : va_S A s.heap H locs := by rw [hH0, hlocs0]; exact hS
  have hl : lv_has ls 6 [(0, .ref (q 0)), (1, .int a1), (2, .int a2), (3, .int a3), (4, .int a4)] := hl
  suffices hgoal : W p l e rmX6_look s m ([.ref (q 0), .int a1, .int a2, .int a3, .int a4] : List Value).toArray below meth c H locs 0 0 (MQ below (kQi D A res.1 (WM q cy res.2 ++ rest)) ([.ref (q 0), .int a1, .int a2, .int a3, .int a4] : List Value).toArray s 0 0 A) (F0 m 0 ls []) by rw [hH0, hlocs0] at hgoal; exact hgoal
  clear hH0 hlocs0
  unfold mX6_look at hf
  refine lv_iload_n hx hb dX6_look_0 rfl (lv_at hl 1 rfl) ?_
  refine lv_i2l (v := (a1.toInt64)) hx hb dX6_look_1 rfl ?_
  refine lv_lconst (v := 0) hx hb dX6_look_2 (by decide) ?_
  refine lv_ldc2 (v := 119) hx hb hown (hts _ wB484) dX6_look_3 ?_
  obtain ⟨r6, h6r, hf⟩ := o_bs hf
  refine k_goi (va_runS (As := [.long (a1.toInt64), .long 0, .long 119]) (rest := []) ⟨hx, hb, hml, hown, hts⟩ (zX6_in l D cy sa (WM q cy u ++ rest) H.size (a1.toInt64) 0 119  r6  h6r) (va_cwS 3 hts (gB_S wB141 wB142 wB5 wB143) rfl rfl rfl (by decide +kernel) ⟨Nat.le_of_ble_eq_true rfl, Nat.le_of_ble_eq_true rfl⟩) ⟨kP.blind, k_pre hP hD hS hE hA⟩ rfl rfl hl.1 rfl (lv_room (Nat.le_of_ble_eq_true rfl)) dX6_look_6 ⟨Nat.zero_le _, Nat.zero_le _⟩) hD hS hA (fun H locs hP hD hS => ?_)
  refine lv_if_eq (tgt := 51) hx hb dX6_look_9 (by decide) (fun c9 => ?_) (fun c9 => ?_)
  · have hf := o_ip c9 hf
    refine lv_aload_n hx hb dX6_look_51 rfl (lv_at hl 0 rfl) ?_
    obtain ⟨r52, h52r, hf⟩ := o_bs hf
    refine k_goi (va_runV (As := []) (rest := []) ⟨hx, hb, hml, hown, hts⟩ (zX6_bad l D cy sa q rest H.size u  r52 h52r) (cwV 0 hts (gB_V wB144 wB145 wB146 wB5 wB147) rfl rfl rfl (by decide +kernel) ⟨Nat.le_of_ble_eq_true rfl, Nat.le_of_ble_eq_true rfl⟩) ⟨kP.blind, k_recv hE hP (ci := 6) (q0 := 0) rfl rfl, k_pre hP hD hS hE hA⟩ rfl rfl hl.1 rfl (lv_room (Nat.le_of_ble_eq_true rfl)) dX6_look_52 ⟨Nat.zero_le _, Nat.zero_le _⟩) hD hS hA (fun H locs hP hD hS => ?_)
    obtain rfl := o_ret hf
    exact k_iret hx hb hr hP hD hS (Nat.zero_le _) (Nat.zero_le _) hlocks dX6_look_55
  · have hf := o_in c9 hf
    refine lv_iload_n hx hb dX6_look_12 rfl (lv_at hl 2 rfl) ?_
    refine lv_i2l (v := (a2.toInt64)) hx hb dX6_look_13 rfl ?_
    refine lv_lconst (v := 0) hx hb dX6_look_14 (by decide) ?_
    refine lv_ldc2 (v := 3) hx hb hown (hts _ wB376) dX6_look_15 ?_
    obtain ⟨r18, h18r, hf⟩ := o_bs hf
    refine k_goi (va_runS (As := [.long (a2.toInt64), .long 0, .long 3]) (rest := []) ⟨hx, hb, hml, hown, hts⟩ (zX6_in l D cy sa (WM q cy u ++ rest) H.size (a2.toInt64) 0 3  r18  h18r) (va_cwS 3 hts (gB_S wB141 wB142 wB5 wB143) rfl rfl rfl (by decide +kernel) ⟨Nat.le_of_ble_eq_true rfl, Nat.le_of_ble_eq_true rfl⟩) ⟨kP.blind, k_pre hP hD hS hE hA⟩ rfl rfl hl.1 rfl (lv_room (Nat.le_of_ble_eq_true rfl)) dX6_look_18 ⟨Nat.zero_le _, Nat.zero_le _⟩) hD hS hA (fun H locs hP hD hS => ?_)
    refine lv_if_eq (tgt := 51) hx hb dX6_look_21 (by decide) (fun c21 => ?_) (fun c21 => ?_)
    · have hf := o_ip c21 hf
      refine lv_aload_n hx hb dX6_look_51 rfl (lv_at hl 0 rfl) ?_
      obtain ⟨r52, h52r, hf⟩ := o_bs hf
      refine k_goi (va_runV (As := []) (rest := []) ⟨hx, hb, hml, hown, hts⟩ (zX6_bad l D cy sa q rest H.size u  r52 h52r) (cwV 0 hts (gB_V wB144 wB145 wB146 wB5 wB147) rfl rfl rfl (by decide +kernel) ⟨Nat.le_of_ble_eq_true rfl, Nat.le_of_ble_eq_true rfl⟩) ⟨kP.blind, k_recv hE hP (ci := 6) (q0 := 0) rfl rfl, k_pre hP hD hS hE hA⟩ rfl rfl hl.1 rfl (lv_room (Nat.le_of_ble_eq_true rfl)) dX6_look_52 ⟨Nat.zero_le _, Nat.zero_le _⟩) hD hS hA (fun H locs hP hD hS => ?_)
      obtain rfl := o_ret hf
      exact k_iret hx hb hr hP hD hS (Nat.zero_le _) (Nat.zero_le _) hlocks dX6_look_55
    · have hf := o_in c21 hf
      refine lv_iload_n hx hb dX6_look_24 rfl (lv_at hl 3 rfl) ?_
      refine lv_i2l (v := (a3.toInt64)) hx hb dX6_look_25 rfl ?_
      refine lv_ldc2 (v := (-1)) hx hb hown (hts _ wB461) dX6_look_26 ?_
      refine lv_ldc2 (v := 3) hx hb hown (hts _ wB376) dX6_look_29 ?_
      obtain ⟨r32, h32r, hf⟩ := o_bs hf
      refine k_goi (va_runS (As := [.long (a3.toInt64), .long (-1), .long 3]) (rest := []) ⟨hx, hb, hml, hown, hts⟩ (zX6_in l D cy sa (WM q cy u ++ rest) H.size (a3.toInt64) (-1) 3  r32  h32r) (va_cwS 3 hts (gB_S wB141 wB142 wB5 wB143) rfl rfl rfl (by decide +kernel) ⟨Nat.le_of_ble_eq_true rfl, Nat.le_of_ble_eq_true rfl⟩) ⟨kP.blind, k_pre hP hD hS hE hA⟩ rfl rfl hl.1 rfl (lv_room (Nat.le_of_ble_eq_true rfl)) dX6_look_32 ⟨Nat.zero_le _, Nat.zero_le _⟩) hD hS hA (fun H locs hP hD hS => ?_)
      refine lv_if_eq (tgt := 51) hx hb dX6_look_35 (by decide) (fun c35 => ?_) (fun c35 => ?_)
      · have hf := o_ip c35 hf
        refine lv_aload_n hx hb dX6_look_51 rfl (lv_at hl 0 rfl) ?_
        obtain ⟨r52, h52r, hf⟩ := o_bs hf
        refine k_goi (va_runV (As := []) (rest := []) ⟨hx, hb, hml, hown, hts⟩ (zX6_bad l D cy sa q rest H.size u  r52 h52r) (cwV 0 hts (gB_V wB144 wB145 wB146 wB5 wB147) rfl rfl rfl (by decide +kernel) ⟨Nat.le_of_ble_eq_true rfl, Nat.le_of_ble_eq_true rfl⟩) ⟨kP.blind, k_recv hE hP (ci := 6) (q0 := 0) rfl rfl, k_pre hP hD hS hE hA⟩ rfl rfl hl.1 rfl (lv_room (Nat.le_of_ble_eq_true rfl)) dX6_look_52 ⟨Nat.zero_le _, Nat.zero_le _⟩) hD hS hA (fun H locs hP hD hS => ?_)
        obtain rfl := o_ret hf
        exact k_iret hx hb hr hP hD hS (Nat.zero_le _) (Nat.zero_le _) hlocks dX6_look_55
      · have hf := o_in c35 hf
        refine lv_iload hx hb dX6_look_38 (lv_at hl 4 rfl) ?_
        refine lv_i2l (v := (a4.toInt64)) hx hb dX6_look_40 rfl ?_
        refine lv_lconst (v := 0) hx hb dX6_look_41 (by decide) ?_
        refine lv_ldc2 (v := 2) hx hb hown (hts _ wB485) dX6_look_42 ?_
        obtain ⟨r45, h45r, hf⟩ := o_bs hf
        refine k_goi (va_runS (As := [.long (a4.toInt64), .long 0, .long 2]) (rest := []) ⟨hx, hb, hml, hown, hts⟩ (zX6_in l D cy sa (WM q cy u ++ rest) H.size (a4.toInt64) 0 2  r45  h45r) (va_cwS 3 hts (gB_S wB141 wB142 wB5 wB143) rfl rfl rfl (by decide +kernel) ⟨Nat.le_of_ble_eq_true rfl, Nat.le_of_ble_eq_true rfl⟩) ⟨kP.blind, k_pre hP hD hS hE hA⟩ rfl rfl hl.1 rfl (lv_room (Nat.le_of_ble_eq_true rfl)) dX6_look_45 ⟨Nat.zero_le _, Nat.zero_le _⟩) hD hS hA (fun H locs hP hD hS => ?_)
        refine lv_if_ne (tgt := 56) hx hb dX6_look_48 (by decide) (fun c48 => ?_) (fun c48 => ?_)
        · have hf := o_in c48 hf
          refine lv_aload_n hx hb dX6_look_56 rfl (lv_at hl 0 rfl) ?_
          refine va_get (ci := 6) (v := .ref (q 1)) (C := RX6) (T := TX6) (N := 26) hx hb hts inlX6 hown hE.1 hP 0 rfl rfl 0 (by decide) (hts _ wB83) (fun _ h9 => h9) rfl dX6_look_57 ?_
          refine lv_iconst (v := 1) hx hb dX6_look_60 (by decide) ?_
          refine va_iald (f := (gR u 0)) hx hb hE.1 hP 1 0 rfl rfl (k_in (by decide)) dX6_look_61 ?_
          refine lv_bipush (v := 8) hx hb dX6_look_62 (by decide) ?_
          refine lv_icmp_ne (tgt := 72) hx hb dX6_look_64 (by decide) (fun c64 => ?_) (fun c64 => ?_)
          · have hf := o_in c64 hf
            refine lv_bipush (v := 20) hx hb dX6_look_72 (by decide) ?_
            refine lv_iconst (v := 4) hx hb dX6_look_74 (by decide) ?_
            refine lv_aload_n hx hb dX6_look_75 rfl (lv_at hl 0 rfl) ?_
            refine va_get (ci := 6) (v := .ref (q 1)) (C := RX6) (T := TX6) (N := 26) hx hb hts inlX6 hown hE.1 hP 0 rfl rfl 0 (by decide) (hts _ wB83) (fun _ h9 => h9) rfl dX6_look_76 ?_
            refine lv_iconst (v := 1) hx hb dX6_look_79 (by decide) ?_
            refine va_iald (f := (gR u 0)) hx hb hE.1 hP 1 0 rfl rfl (k_in (by decide)) dX6_look_80 ?_
            refine lv_imul hx hb dX6_look_81 ?_
            refine lv_iadd hx hb dX6_look_82 ?_
            refine lv_istore (lv' := [(5, .int (20 + (4 * ((gR u 0) ((1 : Int32).toNatClampNeg))))), (0, .ref (q 0)), (1, .int a1), (2, .int a2), (3, .int a3), (4, .int a4)]) hx hb dX6_look_83 hl (by decide) rfl (fun ls hl => ?_)
            refine lv_aload_n hx hb dX6_look_85 rfl (lv_at hl 1 rfl) ?_
            refine va_get (ci := 6) (v := .ref (q 1)) (C := RX6) (T := TX6) (N := 26) hx hb hts inlX6 hown hE.1 hP 0 rfl rfl 0 (by decide) (hts _ wB83) (fun _ h9 => h9) rfl dX6_look_86 ?_
            refine lv_iload hx hb dX6_look_89 (lv_at hl 0 rfl) ?_
            refine lv_iload_n hx hb dX6_look_91 rfl (lv_at hl 2 rfl) ?_
            obtain ⟨hg92, hf⟩ := gd_s hf
            refine va_iast (f := (gR u 0)) hx hb hE.1 hP hD hS 1 0 rfl rfl hg92 dX6_look_92 (fun H locs hP hD hS => ?_)
            have hP : va_P D vwCl (WM q cy (sR u 0 (upd (gR u 0) ((20 + (4 * ((gR u 0) ((1 : Int32).toNatClampNeg)))).toNatClampNeg) a1)) ++ rest) H := hP
            have hD : va_D A (WM q cy (sR u 0 (upd (gR u 0) ((20 + (4 * ((gR u 0) ((1 : Int32).toNatClampNeg)))).toNatClampNeg) a1)) ++ rest) := hD
            refine lv_aload_n hx hb dX6_look_93 rfl (lv_at hl 1 rfl) ?_
            refine va_get (ci := 6) (v := .ref (q 1)) (C := RX6) (T := TX6) (N := 26) hx hb hts inlX6 hown hE.1 hP 0 rfl rfl 0 (by decide) (hts _ wB83) (fun _ h9 => h9) rfl dX6_look_94 ?_
            refine lv_iload hx hb dX6_look_97 (lv_at hl 0 rfl) ?_
            refine lv_iconst (v := 1) hx hb dX6_look_99 (by decide) ?_
            refine lv_iadd hx hb dX6_look_100 ?_
            refine lv_iload_n hx hb dX6_look_101 rfl (lv_at hl 3 rfl) ?_
            obtain ⟨hg102, hf⟩ := gd_s hf
            refine va_iast (f := (upd (gR u 0) ((20 + (4 * ((gR u 0) ((1 : Int32).toNatClampNeg)))).toNatClampNeg) a1)) hx hb hE.1 hP hD hS 1 0 rfl rfl hg102 dX6_look_102 (fun H locs hP hD hS => ?_)
            have hQ : ∀ (xb : KS) (x0 : (Nat → Int32)) (xn : (Nat → Int32)), (WM q cy (sR xb 0 x0) ++ rest).set 1 (q 1, .inl (cy 0, 200, .inl xn)) = WM q cy (sR xb 0 xn) ++ rest := fun _ _ _ => rfl
            have hP : va_P D vwCl (WM q cy (sR u 0 (upd (upd (gR u 0) ((20 + (4 * ((gR u 0) ((1 : Int32).toNatClampNeg)))).toNatClampNeg) a1) (((20 + (4 * ((gR u 0) ((1 : Int32).toNatClampNeg)))) + 1).toNatClampNeg) a2)) ++ rest) H := k_wP (hQ u (upd (gR u 0) ((20 + (4 * ((gR u 0) ((1 : Int32).toNatClampNeg)))).toNatClampNeg) a1) (upd (upd (gR u 0) ((20 + (4 * ((gR u 0) ((1 : Int32).toNatClampNeg)))).toNatClampNeg) a1) (((20 + (4 * ((gR u 0) ((1 : Int32).toNatClampNeg)))) + 1).toNatClampNeg) a2)) hP
            have hD : va_D A (WM q cy (sR u 0 (upd (upd (gR u 0) ((20 + (4 * ((gR u 0) ((1 : Int32).toNatClampNeg)))).toNatClampNeg) a1) (((20 + (4 * ((gR u 0) ((1 : Int32).toNatClampNeg)))) + 1).toNatClampNeg) a2)) ++ rest) := k_wD (hQ u (upd (gR u 0) ((20 + (4 * ((gR u 0) ((1 : Int32).toNatClampNeg)))).toNatClampNeg) a1) (upd (upd (gR u 0) ((20 + (4 * ((gR u 0) ((1 : Int32).toNatClampNeg)))).toNatClampNeg) a1) (((20 + (4 * ((gR u 0) ((1 : Int32).toNatClampNeg)))) + 1).toNatClampNeg) a2)) hD
            clear hQ
            refine lv_aload_n hx hb dX6_look_103 rfl (lv_at hl 1 rfl) ?_
            refine va_get (ci := 6) (v := .ref (q 1)) (C := RX6) (T := TX6) (N := 26) hx hb hts inlX6 hown hE.1 hP 0 rfl rfl 0 (by decide) (hts _ wB83) (fun _ h9 => h9) rfl dX6_look_104 ?_
            refine lv_iload hx hb dX6_look_107 (lv_at hl 0 rfl) ?_
            refine lv_iconst (v := 2) hx hb dX6_look_109 (by decide) ?_
            refine lv_iadd hx hb dX6_look_110 ?_
            refine lv_iload_n hx hb dX6_look_111 rfl (lv_at hl 4 rfl) ?_
            obtain ⟨hg112, hf⟩ := gd_s hf
            refine va_iast (f := (upd (upd (gR u 0) ((20 + (4 * ((gR u 0) ((1 : Int32).toNatClampNeg)))).toNatClampNeg) a1) (((20 + (4 * ((gR u 0) ((1 : Int32).toNatClampNeg)))) + 1).toNatClampNeg) a2)) hx hb hE.1 hP hD hS 1 0 rfl rfl hg112 dX6_look_112 (fun H locs hP hD hS => ?_)
            have hQ : ∀ (xb : KS) (x0 : (Nat → Int32)) (xn : (Nat → Int32)), (WM q cy (sR xb 0 x0) ++ rest).set 1 (q 1, .inl (cy 0, 200, .inl xn)) = WM q cy (sR xb 0 xn) ++ rest := fun _ _ _ => rfl
            have hP : va_P D vwCl (WM q cy (sR u 0 (upd (upd (upd (gR u 0) ((20 + (4 * ((gR u 0) ((1 : Int32).toNatClampNeg)))).toNatClampNeg) a1) (((20 + (4 * ((gR u 0) ((1 : Int32).toNatClampNeg)))) + 1).toNatClampNeg) a2) (((20 + (4 * ((gR u 0) ((1 : Int32).toNatClampNeg)))) + 2).toNatClampNeg) a3)) ++ rest) H := k_wP (hQ u (upd (upd (gR u 0) ((20 + (4 * ((gR u 0) ((1 : Int32).toNatClampNeg)))).toNatClampNeg) a1) (((20 + (4 * ((gR u 0) ((1 : Int32).toNatClampNeg)))) + 1).toNatClampNeg) a2) (upd (upd (upd (gR u 0) ((20 + (4 * ((gR u 0) ((1 : Int32).toNatClampNeg)))).toNatClampNeg) a1) (((20 + (4 * ((gR u 0) ((1 : Int32).toNatClampNeg)))) + 1).toNatClampNeg) a2) (((20 + (4 * ((gR u 0) ((1 : Int32).toNatClampNeg)))) + 2).toNatClampNeg) a3)) hP
            have hD : va_D A (WM q cy (sR u 0 (upd (upd (upd (gR u 0) ((20 + (4 * ((gR u 0) ((1 : Int32).toNatClampNeg)))).toNatClampNeg) a1) (((20 + (4 * ((gR u 0) ((1 : Int32).toNatClampNeg)))) + 1).toNatClampNeg) a2) (((20 + (4 * ((gR u 0) ((1 : Int32).toNatClampNeg)))) + 2).toNatClampNeg) a3)) ++ rest) := k_wD (hQ u (upd (upd (gR u 0) ((20 + (4 * ((gR u 0) ((1 : Int32).toNatClampNeg)))).toNatClampNeg) a1) (((20 + (4 * ((gR u 0) ((1 : Int32).toNatClampNeg)))) + 1).toNatClampNeg) a2) (upd (upd (upd (gR u 0) ((20 + (4 * ((gR u 0) ((1 : Int32).toNatClampNeg)))).toNatClampNeg) a1) (((20 + (4 * ((gR u 0) ((1 : Int32).toNatClampNeg)))) + 1).toNatClampNeg) a2) (((20 + (4 * ((gR u 0) ((1 : Int32).toNatClampNeg)))) + 2).toNatClampNeg) a3)) hD
            clear hQ
            refine lv_aload_n hx hb dX6_look_113 rfl (lv_at hl 1 rfl) ?_
            refine va_get (ci := 6) (v := .ref (q 1)) (C := RX6) (T := TX6) (N := 26) hx hb hts inlX6 hown hE.1 hP 0 rfl rfl 0 (by decide) (hts _ wB83) (fun _ h9 => h9) rfl dX6_look_114 ?_
            refine lv_iload hx hb dX6_look_117 (lv_at hl 0 rfl) ?_
            refine lv_iconst (v := 3) hx hb dX6_look_119 (by decide) ?_
            refine lv_iadd hx hb dX6_look_120 ?_
            refine lv_iload hx hb dX6_look_121 (lv_at hl 5 rfl) ?_
            obtain ⟨hg123, hf⟩ := gd_s hf
            refine va_iast (f := (upd (upd (upd (gR u 0) ((20 + (4 * ((gR u 0) ((1 : Int32).toNatClampNeg)))).toNatClampNeg) a1) (((20 + (4 * ((gR u 0) ((1 : Int32).toNatClampNeg)))) + 1).toNatClampNeg) a2) (((20 + (4 * ((gR u 0) ((1 : Int32).toNatClampNeg)))) + 2).toNatClampNeg) a3)) hx hb hE.1 hP hD hS 1 0 rfl rfl hg123 dX6_look_123 (fun H locs hP hD hS => ?_)
            have hQ : ∀ (xb : KS) (x0 : (Nat → Int32)) (xn : (Nat → Int32)), (WM q cy (sR xb 0 x0) ++ rest).set 1 (q 1, .inl (cy 0, 200, .inl xn)) = WM q cy (sR xb 0 xn) ++ rest := fun _ _ _ => rfl
            have hP : va_P D vwCl (WM q cy (sR u 0 (upd (upd (upd (upd (gR u 0) ((20 + (4 * ((gR u 0) ((1 : Int32).toNatClampNeg)))).toNatClampNeg) a1) (((20 + (4 * ((gR u 0) ((1 : Int32).toNatClampNeg)))) + 1).toNatClampNeg) a2) (((20 + (4 * ((gR u 0) ((1 : Int32).toNatClampNeg)))) + 2).toNatClampNeg) a3) (((20 + (4 * ((gR u 0) ((1 : Int32).toNatClampNeg)))) + 3).toNatClampNeg) a4)) ++ rest) H := k_wP (hQ u (upd (upd (upd (gR u 0) ((20 + (4 * ((gR u 0) ((1 : Int32).toNatClampNeg)))).toNatClampNeg) a1) (((20 + (4 * ((gR u 0) ((1 : Int32).toNatClampNeg)))) + 1).toNatClampNeg) a2) (((20 + (4 * ((gR u 0) ((1 : Int32).toNatClampNeg)))) + 2).toNatClampNeg) a3) (upd (upd (upd (upd (gR u 0) ((20 + (4 * ((gR u 0) ((1 : Int32).toNatClampNeg)))).toNatClampNeg) a1) (((20 + (4 * ((gR u 0) ((1 : Int32).toNatClampNeg)))) + 1).toNatClampNeg) a2) (((20 + (4 * ((gR u 0) ((1 : Int32).toNatClampNeg)))) + 2).toNatClampNeg) a3) (((20 + (4 * ((gR u 0) ((1 : Int32).toNatClampNeg)))) + 3).toNatClampNeg) a4)) hP
            have hD : va_D A (WM q cy (sR u 0 (upd (upd (upd (upd (gR u 0) ((20 + (4 * ((gR u 0) ((1 : Int32).toNatClampNeg)))).toNatClampNeg) a1) (((20 + (4 * ((gR u 0) ((1 : Int32).toNatClampNeg)))) + 1).toNatClampNeg) a2) (((20 + (4 * ((gR u 0) ((1 : Int32).toNatClampNeg)))) + 2).toNatClampNeg) a3) (((20 + (4 * ((gR u 0) ((1 : Int32).toNatClampNeg)))) + 3).toNatClampNeg) a4)) ++ rest) := k_wD (hQ u (upd (upd (upd (gR u 0) ((20 + (4 * ((gR u 0) ((1 : Int32).toNatClampNeg)))).toNatClampNeg) a1) (((20 + (4 * ((gR u 0) ((1 : Int32).toNatClampNeg)))) + 1).toNatClampNeg) a2) (((20 + (4 * ((gR u 0) ((1 : Int32).toNatClampNeg)))) + 2).toNatClampNeg) a3) (upd (upd (upd (upd (gR u 0) ((20 + (4 * ((gR u 0) ((1 : Int32).toNatClampNeg)))).toNatClampNeg) a1) (((20 + (4 * ((gR u 0) ((1 : Int32).toNatClampNeg)))) + 1).toNatClampNeg) a2) (((20 + (4 * ((gR u 0) ((1 : Int32).toNatClampNeg)))) + 2).toNatClampNeg) a3) (((20 + (4 * ((gR u 0) ((1 : Int32).toNatClampNeg)))) + 3).toNatClampNeg) a4)) hD
            clear hQ
            refine lv_aload_n hx hb dX6_look_124 rfl (lv_at hl 1 rfl) ?_
            refine va_get (ci := 6) (v := .ref (q 1)) (C := RX6) (T := TX6) (N := 26) hx hb hts inlX6 hown hE.1 hP 0 rfl rfl 0 (by decide) (hts _ wB83) (fun _ h9 => h9) rfl dX6_look_125 ?_
            refine lv_iconst (v := 1) hx hb dX6_look_128 (by decide) ?_
            refine lv_dup2_11 hx hb dX6_look_129 rfl rfl ?_
            refine va_iald (f := (upd (upd (upd (upd (gR u 0) ((20 + (4 * ((gR u 0) ((1 : Int32).toNatClampNeg)))).toNatClampNeg) a1) (((20 + (4 * ((gR u 0) ((1 : Int32).toNatClampNeg)))) + 1).toNatClampNeg) a2) (((20 + (4 * ((gR u 0) ((1 : Int32).toNatClampNeg)))) + 2).toNatClampNeg) a3) (((20 + (4 * ((gR u 0) ((1 : Int32).toNatClampNeg)))) + 3).toNatClampNeg) a4)) hx hb hE.1 hP 1 0 rfl rfl (k_in (by decide)) dX6_look_130 ?_
            refine lv_iconst (v := 1) hx hb dX6_look_131 (by decide) ?_
            refine lv_iadd hx hb dX6_look_132 ?_
            refine va_iast (f := (upd (upd (upd (upd (gR u 0) ((20 + (4 * ((gR u 0) ((1 : Int32).toNatClampNeg)))).toNatClampNeg) a1) (((20 + (4 * ((gR u 0) ((1 : Int32).toNatClampNeg)))) + 1).toNatClampNeg) a2) (((20 + (4 * ((gR u 0) ((1 : Int32).toNatClampNeg)))) + 2).toNatClampNeg) a3) (((20 + (4 * ((gR u 0) ((1 : Int32).toNatClampNeg)))) + 3).toNatClampNeg) a4)) hx hb hE.1 hP hD hS 1 0 rfl rfl (k_in (by decide)) dX6_look_133 (fun H locs hP hD hS => ?_)
            have hQ : ∀ (xb : KS) (x0 : (Nat → Int32)) (xn : (Nat → Int32)), (WM q cy (sR xb 0 x0) ++ rest).set 1 (q 1, .inl (cy 0, 200, .inl xn)) = WM q cy (sR xb 0 xn) ++ rest := fun _ _ _ => rfl
            have hP : va_P D vwCl (WM q cy (sR u 0 (upd (upd (upd (upd (upd (gR u 0) ((20 + (4 * ((gR u 0) ((1 : Int32).toNatClampNeg)))).toNatClampNeg) a1) (((20 + (4 * ((gR u 0) ((1 : Int32).toNatClampNeg)))) + 1).toNatClampNeg) a2) (((20 + (4 * ((gR u 0) ((1 : Int32).toNatClampNeg)))) + 2).toNatClampNeg) a3) (((20 + (4 * ((gR u 0) ((1 : Int32).toNatClampNeg)))) + 3).toNatClampNeg) a4) ((1 : Int32).toNatClampNeg) (((upd (upd (upd (upd (gR u 0) ((20 + (4 * ((gR u 0) ((1 : Int32).toNatClampNeg)))).toNatClampNeg) a1) (((20 + (4 * ((gR u 0) ((1 : Int32).toNatClampNeg)))) + 1).toNatClampNeg) a2) (((20 + (4 * ((gR u 0) ((1 : Int32).toNatClampNeg)))) + 2).toNatClampNeg) a3) (((20 + (4 * ((gR u 0) ((1 : Int32).toNatClampNeg)))) + 3).toNatClampNeg) a4) ((1 : Int32).toNatClampNeg)) + 1))) ++ rest) H := k_wP (hQ u (upd (upd (upd (upd (gR u 0) ((20 + (4 * ((gR u 0) ((1 : Int32).toNatClampNeg)))).toNatClampNeg) a1) (((20 + (4 * ((gR u 0) ((1 : Int32).toNatClampNeg)))) + 1).toNatClampNeg) a2) (((20 + (4 * ((gR u 0) ((1 : Int32).toNatClampNeg)))) + 2).toNatClampNeg) a3) (((20 + (4 * ((gR u 0) ((1 : Int32).toNatClampNeg)))) + 3).toNatClampNeg) a4) (upd (upd (upd (upd (upd (gR u 0) ((20 + (4 * ((gR u 0) ((1 : Int32).toNatClampNeg)))).toNatClampNeg) a1) (((20 + (4 * ((gR u 0) ((1 : Int32).toNatClampNeg)))) + 1).toNatClampNeg) a2) (((20 + (4 * ((gR u 0) ((1 : Int32).toNatClampNeg)))) + 2).toNatClampNeg) a3) (((20 + (4 * ((gR u 0) ((1 : Int32).toNatClampNeg)))) + 3).toNatClampNeg) a4) ((1 : Int32).toNatClampNeg) (((upd (upd (upd (upd (gR u 0) ((20 + (4 * ((gR u 0) ((1 : Int32).toNatClampNeg)))).toNatClampNeg) a1) (((20 + (4 * ((gR u 0) ((1 : Int32).toNatClampNeg)))) + 1).toNatClampNeg) a2) (((20 + (4 * ((gR u 0) ((1 : Int32).toNatClampNeg)))) + 2).toNatClampNeg) a3) (((20 + (4 * ((gR u 0) ((1 : Int32).toNatClampNeg)))) + 3).toNatClampNeg) a4) ((1 : Int32).toNatClampNeg)) + 1))) hP
            have hD : va_D A (WM q cy (sR u 0 (upd (upd (upd (upd (upd (gR u 0) ((20 + (4 * ((gR u 0) ((1 : Int32).toNatClampNeg)))).toNatClampNeg) a1) (((20 + (4 * ((gR u 0) ((1 : Int32).toNatClampNeg)))) + 1).toNatClampNeg) a2) (((20 + (4 * ((gR u 0) ((1 : Int32).toNatClampNeg)))) + 2).toNatClampNeg) a3) (((20 + (4 * ((gR u 0) ((1 : Int32).toNatClampNeg)))) + 3).toNatClampNeg) a4) ((1 : Int32).toNatClampNeg) (((upd (upd (upd (upd (gR u 0) ((20 + (4 * ((gR u 0) ((1 : Int32).toNatClampNeg)))).toNatClampNeg) a1) (((20 + (4 * ((gR u 0) ((1 : Int32).toNatClampNeg)))) + 1).toNatClampNeg) a2) (((20 + (4 * ((gR u 0) ((1 : Int32).toNatClampNeg)))) + 2).toNatClampNeg) a3) (((20 + (4 * ((gR u 0) ((1 : Int32).toNatClampNeg)))) + 3).toNatClampNeg) a4) ((1 : Int32).toNatClampNeg)) + 1))) ++ rest) := k_wD (hQ u (upd (upd (upd (upd (gR u 0) ((20 + (4 * ((gR u 0) ((1 : Int32).toNatClampNeg)))).toNatClampNeg) a1) (((20 + (4 * ((gR u 0) ((1 : Int32).toNatClampNeg)))) + 1).toNatClampNeg) a2) (((20 + (4 * ((gR u 0) ((1 : Int32).toNatClampNeg)))) + 2).toNatClampNeg) a3) (((20 + (4 * ((gR u 0) ((1 : Int32).toNatClampNeg)))) + 3).toNatClampNeg) a4) (upd (upd (upd (upd (upd (gR u 0) ((20 + (4 * ((gR u 0) ((1 : Int32).toNatClampNeg)))).toNatClampNeg) a1) (((20 + (4 * ((gR u 0) ((1 : Int32).toNatClampNeg)))) + 1).toNatClampNeg) a2) (((20 + (4 * ((gR u 0) ((1 : Int32).toNatClampNeg)))) + 2).toNatClampNeg) a3) (((20 + (4 * ((gR u 0) ((1 : Int32).toNatClampNeg)))) + 3).toNatClampNeg) a4) ((1 : Int32).toNatClampNeg) (((upd (upd (upd (upd (gR u 0) ((20 + (4 * ((gR u 0) ((1 : Int32).toNatClampNeg)))).toNatClampNeg) a1) (((20 + (4 * ((gR u 0) ((1 : Int32).toNatClampNeg)))) + 1).toNatClampNeg) a2) (((20 + (4 * ((gR u 0) ((1 : Int32).toNatClampNeg)))) + 2).toNatClampNeg) a3) (((20 + (4 * ((gR u 0) ((1 : Int32).toNatClampNeg)))) + 3).toNatClampNeg) a4) ((1 : Int32).toNatClampNeg)) + 1))) hD
            clear hQ
            refine lv_aload_n hx hb dX6_look_134 rfl (lv_at hl 1 rfl) ?_
            refine va_get (ci := 6) (v := .ref (q 1)) (C := RX6) (T := TX6) (N := 26) hx hb hts inlX6 hown hE.1 hP 0 rfl rfl 0 (by decide) (hts _ wB83) (fun _ h9 => h9) rfl dX6_look_135 ?_
            refine lv_iconst (v := 1) hx hb dX6_look_138 (by decide) ?_
            refine va_iald (f := (upd (upd (upd (upd (upd (gR u 0) ((20 + (4 * ((gR u 0) ((1 : Int32).toNatClampNeg)))).toNatClampNeg) a1) (((20 + (4 * ((gR u 0) ((1 : Int32).toNatClampNeg)))) + 1).toNatClampNeg) a2) (((20 + (4 * ((gR u 0) ((1 : Int32).toNatClampNeg)))) + 2).toNatClampNeg) a3) (((20 + (4 * ((gR u 0) ((1 : Int32).toNatClampNeg)))) + 3).toNatClampNeg) a4) ((1 : Int32).toNatClampNeg) (((upd (upd (upd (upd (gR u 0) ((20 + (4 * ((gR u 0) ((1 : Int32).toNatClampNeg)))).toNatClampNeg) a1) (((20 + (4 * ((gR u 0) ((1 : Int32).toNatClampNeg)))) + 1).toNatClampNeg) a2) (((20 + (4 * ((gR u 0) ((1 : Int32).toNatClampNeg)))) + 2).toNatClampNeg) a3) (((20 + (4 * ((gR u 0) ((1 : Int32).toNatClampNeg)))) + 3).toNatClampNeg) a4) ((1 : Int32).toNatClampNeg)) + 1))) hx hb hE.1 hP 1 0 rfl rfl (k_in (by decide)) dX6_look_139 ?_
            refine lv_iconst (v := 1) hx hb dX6_look_140 (by decide) ?_
            refine lv_isub hx hb dX6_look_141 ?_
            obtain rfl := o_ret hf
            exact k_iret hx hb hr hP hD hS (Nat.zero_le _) (Nat.zero_le _) hlocks dX6_look_142
          · have hf := o_ip c64 hf
            refine lv_aload_n hx hb dX6_look_67 rfl (lv_at hl 0 rfl) ?_
            obtain ⟨r68, h68r, hf⟩ := o_bs hf
            refine k_goi (va_runV (As := []) (rest := []) ⟨hx, hb, hml, hown, hts⟩ (zX6_full l D cy sa q rest H.size u  r68 h68r) (cwV 0 hts (gB_V wB152 wB153 wB154 wB5 wB155) rfl rfl rfl (by decide +kernel) ⟨Nat.le_of_ble_eq_true rfl, Nat.le_of_ble_eq_true rfl⟩) ⟨kP.blind, k_recv hE hP (ci := 6) (q0 := 0) rfl rfl, k_pre hP hD hS hE hA⟩ rfl rfl hl.1 rfl (lv_room (Nat.le_of_ble_eq_true rfl)) dX6_look_68 ⟨Nat.zero_le _, Nat.zero_le _⟩) hD hS hA (fun H locs hP hD hS => ?_)
            obtain rfl := o_ret hf
            exact k_iret hx hb hr hP hD hS (Nat.zero_le _) (Nat.zero_le _) hlocks dX6_look_71
        · have hf := o_ip c48 hf
          refine lv_aload_n hx hb dX6_look_51 rfl (lv_at hl 0 rfl) ?_
          obtain ⟨r52, h52r, hf⟩ := o_bs hf
          refine k_goi (va_runV (As := []) (rest := []) ⟨hx, hb, hml, hown, hts⟩ (zX6_bad l D cy sa q rest H.size u  r52 h52r) (cwV 0 hts (gB_V wB144 wB145 wB146 wB5 wB147) rfl rfl rfl (by decide +kernel) ⟨Nat.le_of_ble_eq_true rfl, Nat.le_of_ble_eq_true rfl⟩) ⟨kP.blind, k_recv hE hP (ci := 6) (q0 := 0) rfl rfl, k_pre hP hD hS hE hA⟩ rfl rfl hl.1 rfl (lv_room (Nat.le_of_ble_eq_true rfl)) dX6_look_52 ⟨Nat.zero_le _, Nat.zero_le _⟩) hD hS hA (fun H locs hP hD hS => ?_)
          obtain rfl := o_ret hf
          exact k_iret hx hb hr hP hD hS (Nat.zero_le _) (Nat.zero_le _) hlocks dX6_look_55
noncomputable def mX6_minutes (u : KS) : Option (Int32 × KS) :=
  (mX6_reads u).bind fun r1 =>
  if r1.1 = 0 then
  ((mX6_no r1.2).bind fun r15 =>
  some (r15.1, r15.2))
  else
  (some ((gI r1.2 5), r1.2))
abbrev rmX6_minutes : Room := { frames := 4, cells := 0, slots := 0, locals := 92 }
set_option maxRecDepth 100000 in
set_option maxHeartbeats 4000000 in
theorem zX6_minutes (l : Launch) (D : va_G) (cy : Nat → ClassId) (sa : Nat → Nat) (q : Nat → Nat) (rest : va_W) (sz : Nat) (u : KS) (res : Int32 × KS) (hf : mX6_minutes u = some res) : kMi l yX6_minutes (wsK yX6_minutes cX6_minutes 1 (some .int)) rmX6_minutes D cy sa (WM q cy u ++ rest) sz [.ref (q 0)] res.1 (WM q cy res.2 ++ rest) 0 0 := by
  refine kM_of (Qc := fun A => kQi D A res.1 (WM q cy res.2 ++ rest)) (cc := cX6_minutes) (maxL := 1) (ret := (some .int)) (by decide) (Nat.le_of_ble_eq_true rfl) ?_
  intro p e s m below meth c A hx hb hml hr hts hown hlocks hin hA hP hD hS hE hsz ls hl
  have hown : s.vm.findClass RX6 = some m.cls := hown
  obtain ⟨H, hH0⟩ : ∃ H, H = s.heap := ⟨_, rfl⟩
  obtain ⟨locs, hlocs0⟩ : ∃ locs : List Loc, locs = [] := ⟨_, rfl⟩
  have hP : va_P D vwCl (WM q cy u ++ rest) H := by rw [hH0]; exact hP
  have hS : va_S A s.heap H locs := by rw [hH0, hlocs0]; exact hS
  have hl : lv_has ls 1 [(0, .ref (q 0))] := hl
  suffices hgoal : W p l e rmX6_minutes s m ([.ref (q 0)] : List Value).toArray below meth c H locs 0 0 (MQ below (kQi D A res.1 (WM q cy res.2 ++ rest)) ([.ref (q 0)] : List Value).toArray s 0 0 A) (F0 m 0 ls []) by rw [hH0, hlocs0] at hgoal; exact hgoal
  clear hH0 hlocs0
  unfold mX6_minutes at hf
  refine lv_aload_n hx hb dX6_minutes_0 rfl (lv_at hl 0 rfl) ?_
  obtain ⟨r1, h1r, hf⟩ := o_bs hf
  refine k_goi (va_runV (As := []) (rest := []) ⟨hx, hb, hml, hown, hts⟩ (zX6_reads l D cy sa q rest H.size u  r1 h1r) (cwV 0 hts (gB_V wB284 wB285 wB286 wB5 wB287) rfl rfl rfl (by decide +kernel) ⟨Nat.le_of_ble_eq_true rfl, Nat.le_of_ble_eq_true rfl⟩) ⟨kP.blind, k_recv hE hP (ci := 6) (q0 := 0) rfl rfl, k_pre hP hD hS hE hA⟩ rfl rfl hl.1 rfl (lv_room (Nat.le_of_ble_eq_true rfl)) dX6_minutes_1 ⟨Nat.zero_le _, Nat.zero_le _⟩) hD hS hA (fun H locs hP hD hS => ?_)
  refine lv_if_eq (tgt := 14) hx hb dX6_minutes_4 (by decide) (fun c4 => ?_) (fun c4 => ?_)
  · have hf := o_ip c4 hf
    refine lv_aload_n hx hb dX6_minutes_14 rfl (lv_at hl 0 rfl) ?_
    obtain ⟨r15, h15r, hf⟩ := o_bs hf
    refine k_goi (va_runV (As := []) (rest := []) ⟨hx, hb, hml, hown, hts⟩ (zX6_no l D cy sa q rest H.size r1.2  r15 h15r) (cwV 0 hts (gB_V wB328 wB329 wB330 wB5 wB331) rfl rfl rfl (by decide +kernel) ⟨Nat.le_of_ble_eq_true rfl, Nat.le_of_ble_eq_true rfl⟩) ⟨kP.blind, k_recv hE hP (ci := 6) (q0 := 0) rfl rfl, k_pre hP hD hS hE hA⟩ rfl rfl hl.1 rfl (lv_room (Nat.le_of_ble_eq_true rfl)) dX6_minutes_15 ⟨Nat.zero_le _, Nat.zero_le _⟩) hD hS hA (fun H locs hP hD hS => ?_)
    obtain rfl := o_ret hf
    exact k_iret hx hb hr hP hD hS (Nat.zero_le _) (Nat.zero_le _) hlocks dX6_minutes_18
  · have hf := o_in c4 hf
    refine lv_aload_n hx hb dX6_minutes_7 rfl (lv_at hl 0 rfl) ?_
    refine va_get (ci := 6) (v := .int (gI r1.2 5)) (C := RX6) (T := TX6) (N := 26) hx hb hts inlX6 hown hE.1 hP 0 rfl rfl 14 (by decide) (hts _ wB289) (fun _ h9 => h9) rfl dX6_minutes_8 ?_
    refine lv_goto (tgt := 18) hx hb dX6_minutes_11 (by decide) ?_
    obtain rfl := o_ret hf
    exact k_iret hx hb hr hP hD hS (Nat.zero_le _) (Nat.zero_le _) hlocks dX6_minutes_18
noncomputable def mX6_next_s50 (c1 : Int32) (c2 : Int32) (c3 : Int64) (c5 : Int32) (c6 : Int32) (s50 : Int32 × KS) : Option ((KS) ⊕ (Int32 × KS)) :=
  if 3 ≤ s50.1 then
  (some (.inl s50.2))
  else
  (gd (inb s50.1 3) (some (.inr ((s50.1 + 1), (sA s50.2 1 (vp_updL (gA s50.2 1) (s50.1.toNatClampNeg) 0))))))
noncomputable def mX6_next_s73 (c1 : Int32) (c2 : Int32) (c3 : Int64) (c5 : Int32) (c6 : Int32) (s73 : Int32 × KS) : Option ((KS) ⊕ (Int32 × KS)) :=
  if 2731 ≤ s73.1 then
  (some (.inl s73.2))
  else
  ((mX6_opens s73.2 s73.1).bind fun r84 =>
  (mX6_levelOf r84 c1 c5 c6).bind fun r97 =>
  gd (inb r97 3) (gd (inb s73.1 2731) (gd (inb r97 3) (some (.inr ((s73.1 + 1), (sA r84 1 (vp_updL (gA r84 1) (r97.toNatClampNeg) (((gA r84 1) (r97.toNatClampNeg)) + ((gA r84 0) (s73.1.toNatClampNeg)))))))))))
noncomputable def mX6_next_s41 (c1 : Int32) (c5 : Int32) (s41 : Int32 × Int64 × Int32 × KS) : Option (((Int32 × Int64 × KS)) ⊕ (Int32 × Int64 × Int32 × KS)) :=
  if 5 ≤ s41.2.2.1 then
  (some (.inl (s41.1, s41.2.1, s41.2.2.2)))
  else
  ((lpF (mX6_next_s50 c1 s41.1 s41.2.1 c5 s41.2.2.1) (0, s41.2.2.2)).bind fun e50 =>
  (lpF (mX6_next_s73 c1 s41.1 s41.2.1 c5 s41.2.2.1) (0, e50)).bind fun e73 =>
  if (lg_cmp ((gA e73 1) ((0 : Int32).toNatClampNeg)) ((gA e73 1) ((1 : Int32).toNatClampNeg))) ≤ 0 then
  (if (lg_cmp ((gA e73 1) ((2 : Int32).toNatClampNeg)) ((gA e73 1) ((1 : Int32).toNatClampNeg))) ≤ 0 then
  (if s41.1 = (-1) then
  (some (.inr (((10 * c5) + s41.2.2.1), ((gA e73 1) ((1 : Int32).toNatClampNeg)), (s41.2.2.1 + 1), e73)))
  else
  (if 0 ≤ (lg_cmp ((gA e73 1) ((1 : Int32).toNatClampNeg)) s41.2.1) then
  (some (.inr (s41.1, s41.2.1, (s41.2.2.1 + 1), e73)))
  else
  (some (.inr (((10 * c5) + s41.2.2.1), ((gA e73 1) ((1 : Int32).toNatClampNeg)), (s41.2.2.1 + 1), e73)))))
  else
  (if s41.1 = (-1) then
  (some (.inr (((10 * c5) + s41.2.2.1), ((gA e73 1) ((2 : Int32).toNatClampNeg)), (s41.2.2.1 + 1), e73)))
  else
  (if 0 ≤ (lg_cmp ((gA e73 1) ((2 : Int32).toNatClampNeg)) s41.2.1) then
  (some (.inr (s41.1, s41.2.1, (s41.2.2.1 + 1), e73)))
  else
  (some (.inr (((10 * c5) + s41.2.2.1), ((gA e73 1) ((2 : Int32).toNatClampNeg)), (s41.2.2.1 + 1), e73))))))
  else
  (if (lg_cmp ((gA e73 1) ((2 : Int32).toNatClampNeg)) ((gA e73 1) ((0 : Int32).toNatClampNeg))) ≤ 0 then
  (if s41.1 = (-1) then
  (some (.inr (((10 * c5) + s41.2.2.1), ((gA e73 1) ((0 : Int32).toNatClampNeg)), (s41.2.2.1 + 1), e73)))
  else
  (if 0 ≤ (lg_cmp ((gA e73 1) ((0 : Int32).toNatClampNeg)) s41.2.1) then
  (some (.inr (s41.1, s41.2.1, (s41.2.2.1 + 1), e73)))
  else
  (some (.inr (((10 * c5) + s41.2.2.1), ((gA e73 1) ((0 : Int32).toNatClampNeg)), (s41.2.2.1 + 1), e73)))))
  else
  (if s41.1 = (-1) then
  (some (.inr (((10 * c5) + s41.2.2.1), ((gA e73 1) ((2 : Int32).toNatClampNeg)), (s41.2.2.1 + 1), e73)))
  else
  (if 0 ≤ (lg_cmp ((gA e73 1) ((2 : Int32).toNatClampNeg)) s41.2.1) then
  (some (.inr (s41.1, s41.2.1, (s41.2.2.1 + 1), e73)))
  else
  (some (.inr (((10 * c5) + s41.2.2.1), ((gA e73 1) ((2 : Int32).toNatClampNeg)), (s41.2.2.1 + 1), e73)))))))
noncomputable def mX6_next_s32 (c1 : Int32) (s32 : Int32 × Int64 × Int32 × KS) : Option (((Int32 × KS)) ⊕ (Int32 × Int64 × Int32 × KS)) :=
  if 4 ≤ s32.2.2.1 then
  (some (.inl (s32.1, s32.2.2.2)))
  else
  ((lpF (mX6_next_s41 c1 s32.2.2.1) (s32.1, s32.2.1, 0, s32.2.2.2)).bind fun e41 =>
  some (.inr (e41.1, e41.2.1, (s32.2.2.1 + 1), e41.2.2)))
noncomputable def mX6_next (u : KS) (a1 : Int32) : Option (Int32 × KS) :=
  (mX6_weighs u).bind fun r1 =>
  if r1.1 = 0 then
  ((mX6_no r1.2).bind fun r8 =>
  some (r8.1, r8.2))
  else
  ((mX6_isMinute r1.2 a1).bind fun r14 =>
  if r14 = 0 then
  ((mX6_bad r1.2).bind fun r21 =>
  some (r21.1, r21.2))
  else
  ((lpF (mX6_next_s32 a1) ((-1), 0, 0, r1.2)).bind fun e32 =>
  some (e32.1, e32.2)))
abbrev rmX6_next : Room := { frames := 6, cells := 0, slots := 0, locals := 143 }
set_option maxRecDepth 100000 in
set_option maxHeartbeats 4000000 in
theorem zX6_next (l : Launch) (D : va_G) (cy : Nat → ClassId) (sa : Nat → Nat) (q : Nat → Nat) (rest : va_W) (sz : Nat) (u : KS) (a1 : Int32) (res : Int32 × KS) (hf : mX6_next u a1 = some res) : kMi l yX6_next (wsK yX6_next cX6_next 9 (some .int)) rmX6_next D cy sa (WM q cy u ++ rest) sz [.ref (q 0), .int a1] res.1 (WM q cy res.2 ++ rest) 0 0 := by
  refine kM_of (Qc := fun A => kQi D A res.1 (WM q cy res.2 ++ rest)) (cc := cX6_next) (maxL := 9) (ret := (some .int)) (by decide) (Nat.le_of_ble_eq_true rfl) ?_
  intro p e s m below meth c A hx hb hml hr hts hown hlocks hin hA hP hD hS hE hsz ls hl
  have hown : s.vm.findClass RX6 = some m.cls := hown
  obtain ⟨H, hH0⟩ : ∃ H, H = s.heap := ⟨_, rfl⟩
  obtain ⟨locs, hlocs0⟩ : ∃ locs : List Loc, locs = [] := ⟨_, rfl⟩
  have hP : va_P D vwCl (WM q cy u ++ rest) H := by rw [hH0]; exact hP
  have hS : va_S A s.heap H locs := by rw [hH0, hlocs0]; exact hS
  have hl : lv_has ls 9 [(0, .ref (q 0)), (1, .int a1)] := hl
  suffices hgoal : W p l e rmX6_next s m ([.ref (q 0), .int a1] : List Value).toArray below meth c H locs 0 0 (MQ below (kQi D A res.1 (WM q cy res.2 ++ rest)) ([.ref (q 0), .int a1] : List Value).toArray s 0 0 A) (F0 m 0 ls []) by rw [hH0, hlocs0] at hgoal; exact hgoal
  clear hH0 hlocs0
  unfold mX6_next at hf
  refine lv_aload_n hx hb dX6_next_0 rfl (lv_at hl 0 rfl) ?_
  obtain ⟨r1, h1r, hf⟩ := o_bs hf
  refine k_goi (va_runV (As := []) (rest := []) ⟨hx, hb, hml, hown, hts⟩ (zX6_weighs l D cy sa q rest H.size u  r1 h1r) (cwV 0 hts (gB_V wB563 wB564 wB565 wB5 wB566) rfl rfl rfl (by decide +kernel) ⟨Nat.le_of_ble_eq_true rfl, Nat.le_of_ble_eq_true rfl⟩) ⟨kP.blind, k_recv hE hP (ci := 6) (q0 := 0) rfl rfl, k_pre hP hD hS hE hA⟩ rfl rfl hl.1 rfl (lv_room (Nat.le_of_ble_eq_true rfl)) dX6_next_1 ⟨Nat.zero_le _, Nat.zero_le _⟩) hD hS hA (fun H locs hP hD hS => ?_)
  refine lv_if_ne (tgt := 12) hx hb dX6_next_4 (by decide) (fun c4 => ?_) (fun c4 => ?_)
  · have hf := o_in c4 hf
    refine lv_aload_n hx hb dX6_next_12 rfl (lv_at hl 0 rfl) ?_
    refine lv_iload_n hx hb dX6_next_13 rfl (lv_at hl 1 rfl) ?_
    obtain ⟨r14, h14r, hf⟩ := o_bs hf
    refine k_goi (va_runV (As := [.int a1]) (rest := []) ⟨hx, hb, hml, hown, hts⟩ (zX6_isMinute l D cy sa q rest H.size r1.2 a1 r14 h14r) (cwV 1 hts (gB_V wB438 wB439 wB440 wB5 wB441) rfl rfl rfl (by decide +kernel) ⟨Nat.le_of_ble_eq_true rfl, Nat.le_of_ble_eq_true rfl⟩) ⟨kP.blind, k_recv hE hP (ci := 6) (q0 := 0) rfl rfl, k_pre hP hD hS hE hA⟩ rfl rfl hl.1 rfl (lv_room (Nat.le_of_ble_eq_true rfl)) dX6_next_14 ⟨Nat.zero_le _, Nat.zero_le _⟩) hD hS hA (fun H locs hP hD hS => ?_)
    refine lv_if_ne (tgt := 25) hx hb dX6_next_17 (by decide) (fun c17 => ?_) (fun c17 => ?_)
    · have hf := o_in c17 hf
      refine lv_iconst (v := (-1)) hx hb dX6_next_25 (by decide) ?_
      refine lv_istore_n (lv' := [(2, .int (-1)), (0, .ref (q 0)), (1, .int a1)]) hx hb dX6_next_26 rfl hl (by decide) rfl (fun ls hl => ?_)
      refine lv_lconst (v := 0) hx hb dX6_next_27 (by decide) ?_
      refine lv_lstore_n (lv' := [(3, .long 0), (2, .int (-1)), (0, .ref (q 0)), (1, .int a1)]) hx hb dX6_next_28 rfl hl (by decide) rfl (fun ls hl => ?_)
      refine lv_iconst (v := 0) hx hb dX6_next_29 (by decide) ?_
      refine lv_istore (lv' := [(5, .int 0), (3, .long 0), (2, .int (-1)), (0, .ref (q 0)), (1, .int a1)]) hx hb dX6_next_30 hl (by decide) rfl (fun ls hl => ?_)
      have L32 : ∀ (n32v : Nat) (s32 : Int32 × Int64 × Int32 × KS) (e32 : (Int32 × KS)), lpO (mX6_next_s32 a1) n32v s32 = some e32 → ∀ (H : Heap) (locs : List Loc) (ls : Array Slot), va_P D vwCl (WM q cy s32.2.2.2 ++ rest) H → va_D A (WM q cy s32.2.2.2 ++ rest) → va_S A s.heap H locs → lv_has ls 9 [(0, .ref (q 0)), (1, .int a1), (2, .int s32.1), (3, .long s32.2.1), (5, .int s32.2.2.1)] → (∀ (H : Heap) (locs : List Loc) (ls : Array Slot), va_P D vwCl (WM q cy e32.2 ++ rest) H → va_D A (WM q cy e32.2 ++ rest) → va_S A s.heap H locs → lv_has ls 9 [(2, .int e32.1)] → W p l e rmX6_next s m ([.ref (q 0), .int a1] : List Value).toArray below meth c H locs 0 0 (MQ below (kQi D A res.1 (WM q cy res.2 ++ rest)) ([.ref (q 0), .int a1] : List Value).toArray s 0 0 A) (F0 m 211 ls [])) → W p l e rmX6_next s m ([.ref (q 0), .int a1] : List Value).toArray below meth c H locs 0 0 (MQ below (kQi D A res.1 (WM q cy res.2 ++ rest)) ([.ref (q 0), .int a1] : List Value).toArray s 0 0 A) (F0 m 32 ls []) := by
        intro n32v
        induction n32v with
        | zero => intro s32 e32 h; exact (lpO_z h).elim
        | succ n32v ih32 =>
          intro s32 e32 h32z H locs ls hP hD hS hl K32_0
          obtain ⟨x32, hf, h32z⟩ := lpO_s h32z
          unfold mX6_next_s32 at hf
          refine lv_iload hx hb dX6_next_32 (lv_at hl 4 rfl) ?_
          refine lv_iconst (v := 4) hx hb dX6_next_34 (by decide) ?_
          refine lv_icmp_ge (tgt := 211) hx hb dX6_next_35 (by decide) (fun c35 => ?_) (fun c35 => ?_)
          · have hf := o_ip c35 hf
            obtain rfl := o_ret hf
            obtain rfl := lpK_l h32z
            exact K32_0 _ _ _ hP hD hS (lv_sub hl [2] rfl)
          · have hf := o_in c35 hf
            refine lv_iconst (v := 0) hx hb dX6_next_38 (by decide) ?_
            refine lv_istore (lv' := [(6, .int 0), (0, .ref (q 0)), (1, .int a1), (2, .int s32.1), (3, .long s32.2.1), (5, .int s32.2.2.1)]) hx hb dX6_next_39 hl (by decide) rfl (fun ls hl => ?_)
            have L41 : ∀ (n41v : Nat) (s41 : Int32 × Int64 × Int32 × KS) (e41 : (Int32 × Int64 × KS)), lpO (mX6_next_s41 a1 s32.2.2.1) n41v s41 = some e41 → ∀ (H : Heap) (locs : List Loc) (ls : Array Slot), va_P D vwCl (WM q cy s41.2.2.2 ++ rest) H → va_D A (WM q cy s41.2.2.2 ++ rest) → va_S A s.heap H locs → lv_has ls 9 [(0, .ref (q 0)), (1, .int a1), (2, .int s41.1), (3, .long s41.2.1), (5, .int s32.2.2.1), (6, .int s41.2.2.1)] → (∀ (H : Heap) (locs : List Loc) (ls : Array Slot), va_P D vwCl (WM q cy e41.2.2 ++ rest) H → va_D A (WM q cy e41.2.2 ++ rest) → va_S A s.heap H locs → lv_has ls 9 [(0, .ref (q 0)), (1, .int a1), (2, .int e41.1), (3, .long e41.2.1), (5, .int s32.2.2.1)] → W p l e rmX6_next s m ([.ref (q 0), .int a1] : List Value).toArray below meth c H locs 0 0 (MQ below (kQi D A res.1 (WM q cy res.2 ++ rest)) ([.ref (q 0), .int a1] : List Value).toArray s 0 0 A) (F0 m 205 ls [])) → W p l e rmX6_next s m ([.ref (q 0), .int a1] : List Value).toArray below meth c H locs 0 0 (MQ below (kQi D A res.1 (WM q cy res.2 ++ rest)) ([.ref (q 0), .int a1] : List Value).toArray s 0 0 A) (F0 m 41 ls []) := by
              intro n41v
              induction n41v with
              | zero => intro s41 e41 h; exact (lpO_z h).elim
              | succ n41v ih41 =>
                intro s41 e41 h41z H locs ls hP hD hS hl K41_0
                obtain ⟨x41, hf, h41z⟩ := lpO_s h41z
                unfold mX6_next_s41 at hf
                refine lv_iload hx hb dX6_next_41 (lv_at hl 5 rfl) ?_
                refine lv_iconst (v := 5) hx hb dX6_next_43 (by decide) ?_
                refine lv_icmp_ge (tgt := 205) hx hb dX6_next_44 (by decide) (fun c44 => ?_) (fun c44 => ?_)
                · have hf := o_ip c44 hf
                  obtain rfl := o_ret hf
                  obtain rfl := lpK_l h41z
                  exact K41_0 _ _ _ hP hD hS (lv_sub hl [0, 1, 2, 3, 4] rfl)
                · have hf := o_in c44 hf
                  refine lv_iconst (v := 0) hx hb dX6_next_47 (by decide) ?_
                  refine lv_istore (lv' := [(7, .int 0), (0, .ref (q 0)), (1, .int a1), (2, .int s41.1), (3, .long s41.2.1), (5, .int s32.2.2.1), (6, .int s41.2.2.1)]) hx hb dX6_next_48 hl (by decide) rfl (fun ls hl => ?_)
                  have L50 : ∀ (n50v : Nat) (s50 : Int32 × KS) (e50 : KS), lpO (mX6_next_s50 a1 s41.1 s41.2.1 s32.2.2.1 s41.2.2.1) n50v s50 = some e50 → ∀ (H : Heap) (locs : List Loc) (ls : Array Slot), va_P D vwCl (WM q cy s50.2 ++ rest) H → va_D A (WM q cy s50.2 ++ rest) → va_S A s.heap H locs → lv_has ls 9 [(0, .ref (q 0)), (1, .int a1), (2, .int s41.1), (3, .long s41.2.1), (5, .int s32.2.2.1), (6, .int s41.2.2.1), (7, .int s50.1)] → (∀ (H : Heap) (locs : List Loc) (ls : Array Slot), va_P D vwCl (WM q cy e50 ++ rest) H → va_D A (WM q cy e50 ++ rest) → va_S A s.heap H locs → lv_has ls 9 [(0, .ref (q 0)), (1, .int a1), (2, .int s41.1), (3, .long s41.2.1), (5, .int s32.2.2.1), (6, .int s41.2.2.1)] → W p l e rmX6_next s m ([.ref (q 0), .int a1] : List Value).toArray below meth c H locs 0 0 (MQ below (kQi D A res.1 (WM q cy res.2 ++ rest)) ([.ref (q 0), .int a1] : List Value).toArray s 0 0 A) (F0 m 70 ls [])) → W p l e rmX6_next s m ([.ref (q 0), .int a1] : List Value).toArray below meth c H locs 0 0 (MQ below (kQi D A res.1 (WM q cy res.2 ++ rest)) ([.ref (q 0), .int a1] : List Value).toArray s 0 0 A) (F0 m 50 ls []) := by
                    intro n50v
                    induction n50v with
                    | zero => intro s50 e50 h; exact (lpO_z h).elim
                    | succ n50v ih50 =>
                      intro s50 e50 h50z H locs ls hP hD hS hl K50_0
                      obtain ⟨x50, hf, h50z⟩ := lpO_s h50z
                      unfold mX6_next_s50 at hf
                      refine lv_iload hx hb dX6_next_50 (lv_at hl 6 rfl) ?_
                      refine lv_iconst (v := 3) hx hb dX6_next_52 (by decide) ?_
                      refine lv_icmp_ge (tgt := 70) hx hb dX6_next_53 (by decide) (fun c53 => ?_) (fun c53 => ?_)
                      · have hf := o_ip c53 hf
                        obtain rfl := o_ret hf
                        obtain rfl := lpK_l h50z
                        exact K50_0 _ _ _ hP hD hS (lv_sub hl [0, 1, 2, 3, 4, 5] rfl)
                      · have hf := o_in c53 hf
                        refine lv_aload_n hx hb dX6_next_56 rfl (lv_at hl 0 rfl) ?_
                        refine va_get (ci := 6) (v := .ref (q 12)) (C := RX6) (T := TX6) (N := 26) hx hb hts inlX6 hown hE.1 hP 0 rfl rfl 22 (by decide) (hts _ wB95) (fun _ h9 => h9) rfl dX6_next_57 ?_
                        refine lv_iload hx hb dX6_next_60 (lv_at hl 6 rfl) ?_
                        refine lv_lconst (v := 0) hx hb dX6_next_62 (by decide) ?_
                        obtain ⟨hg63, hf⟩ := gd_s hf
                        refine va_last (f := (gA s50.2 1)) hx hb hE.1 hP hD hS 12 1 rfl rfl hg63 dX6_next_63 (fun H locs hP hD hS => ?_)
                        have hP : va_P D vwCl (WM q cy (sA s50.2 1 (vp_updL (gA s50.2 1) (s50.1.toNatClampNeg) 0)) ++ rest) H := hP
                        have hD : va_D A (WM q cy (sA s50.2 1 (vp_updL (gA s50.2 1) (s50.1.toNatClampNeg) 0)) ++ rest) := hD
                        refine lv_iinc (v := (s50.1 + 1)) (lv' := [(7, .int (s50.1 + 1)), (0, .ref (q 0)), (1, .int a1), (2, .int s41.1), (3, .long s41.2.1), (5, .int s32.2.2.1), (6, .int s41.2.2.1)]) hx hb dX6_next_64 hl (k := 6) rfl (by rfl) (by decide) rfl (fun ls hl => ?_)
                        refine lv_goto (tgt := 50) hx hb dX6_next_67 (by decide) ?_
                        obtain rfl := o_ret hf
                        exact ih50 _ _ (lpK_r h50z) _ _ _ hP hD hS (lv_sub hl [1, 2, 3, 4, 5, 6, 0] rfl) K50_0
                  obtain ⟨e50, h50q, hf⟩ := o_bs hf
                  obtain ⟨n50v, h50q⟩ := lpF_ex h50q
                  refine L50 n50v _ e50 h50q _ _ _ hP hD hS (lv_sub hl [1, 2, 3, 4, 5, 6, 0] rfl) ?_
                  intro H locs ls hP hD hS hl
                  refine lv_iconst (v := 0) hx hb dX6_next_70 (by decide) ?_
                  refine lv_istore (lv' := [(7, .int 0), (0, .ref (q 0)), (1, .int a1), (2, .int s41.1), (3, .long s41.2.1), (5, .int s32.2.2.1), (6, .int s41.2.2.1)]) hx hb dX6_next_71 hl (by decide) rfl (fun ls hl => ?_)
                  have L73 : ∀ (n73v : Nat) (s73 : Int32 × KS) (e73 : KS), lpO (mX6_next_s73 a1 s41.1 s41.2.1 s32.2.2.1 s41.2.2.1) n73v s73 = some e73 → ∀ (H : Heap) (locs : List Loc) (ls : Array Slot), va_P D vwCl (WM q cy s73.2 ++ rest) H → va_D A (WM q cy s73.2 ++ rest) → va_S A s.heap H locs → lv_has ls 9 [(0, .ref (q 0)), (1, .int a1), (2, .int s41.1), (3, .long s41.2.1), (5, .int s32.2.2.1), (6, .int s41.2.2.1), (7, .int s73.1)] → (∀ (H : Heap) (locs : List Loc) (ls : Array Slot), va_P D vwCl (WM q cy e73 ++ rest) H → va_D A (WM q cy e73 ++ rest) → va_S A s.heap H locs → lv_has ls 9 [(0, .ref (q 0)), (1, .int a1), (2, .int s41.1), (3, .long s41.2.1), (5, .int s32.2.2.1), (6, .int s41.2.2.1)] → W p l e rmX6_next s m ([.ref (q 0), .int a1] : List Value).toArray below meth c H locs 0 0 (MQ below (kQi D A res.1 (WM q cy res.2 ++ rest)) ([.ref (q 0), .int a1] : List Value).toArray s 0 0 A) (F0 m 117 ls [])) → W p l e rmX6_next s m ([.ref (q 0), .int a1] : List Value).toArray below meth c H locs 0 0 (MQ below (kQi D A res.1 (WM q cy res.2 ++ rest)) ([.ref (q 0), .int a1] : List Value).toArray s 0 0 A) (F0 m 73 ls []) := by
                    intro n73v
                    induction n73v with
                    | zero => intro s73 e73 h; exact (lpO_z h).elim
                    | succ n73v ih73 =>
                      intro s73 e73 h73z H locs ls hP hD hS hl K73_0
                      obtain ⟨x73, hf, h73z⟩ := lpO_s h73z
                      unfold mX6_next_s73 at hf
                      refine lv_iload hx hb dX6_next_73 (lv_at hl 6 rfl) ?_
                      refine lv_sipush (v := 2731) hx hb dX6_next_75 (by decide) ?_
                      refine lv_icmp_ge (tgt := 117) hx hb dX6_next_78 (by decide) (fun c78 => ?_) (fun c78 => ?_)
                      · have hf := o_ip c78 hf
                        obtain rfl := o_ret hf
                        obtain rfl := lpK_l h73z
                        exact K73_0 _ _ _ hP hD hS (lv_sub hl [0, 1, 2, 3, 4, 5] rfl)
                      · have hf := o_in c78 hf
                        refine lv_aload_n hx hb dX6_next_81 rfl (lv_at hl 0 rfl) ?_
                        refine lv_iload hx hb dX6_next_82 (lv_at hl 6 rfl) ?_
                        obtain ⟨r84, h84r, hf⟩ := o_bs hf
                        refine k_gov (va_runV (As := [.int s73.1]) (rest := []) ⟨hx, hb, hml, hown, hts⟩ (zX6_opens l D cy sa q rest H.size s73.2 s73.1 r84 h84r) (cwV 1 hts (gB_V wB567 wB568 wB569 wB5 wB570) rfl rfl rfl (by decide +kernel) ⟨Nat.le_of_ble_eq_true rfl, Nat.le_of_ble_eq_true rfl⟩) ⟨kP.blind, k_recv hE hP (ci := 6) (q0 := 0) rfl rfl, k_pre hP hD hS hE hA⟩ rfl rfl hl.1 rfl (lv_room (Nat.le_of_ble_eq_true rfl)) dX6_next_84 ⟨Nat.zero_le _, Nat.zero_le _⟩) hD hS hA (fun H locs hP hD hS => ?_)
                        refine lv_aload_n hx hb dX6_next_87 rfl (lv_at hl 0 rfl) ?_
                        refine va_get (ci := 6) (v := .ref (q 12)) (C := RX6) (T := TX6) (N := 26) hx hb hts inlX6 hown hE.1 hP 0 rfl rfl 22 (by decide) (hts _ wB95) (fun _ h9 => h9) rfl dX6_next_88 ?_
                        refine lv_aload_n hx hb dX6_next_91 rfl (lv_at hl 0 rfl) ?_
                        refine lv_iload_n hx hb dX6_next_92 rfl (lv_at hl 1 rfl) ?_
                        refine lv_iload hx hb dX6_next_93 (lv_at hl 4 rfl) ?_
                        refine lv_iload hx hb dX6_next_95 (lv_at hl 5 rfl) ?_
                        obtain ⟨r97, h97r, hf⟩ := o_bs hf
                        refine k_goi (va_runV (As := [.int a1, .int s32.2.2.1, .int s41.2.2.1]) (rest := [.ref (q 12)]) ⟨hx, hb, hml, hown, hts⟩ (zX6_levelOf l D cy sa q rest H.size r84 a1 s32.2.2.1 s41.2.2.1 r97 h97r) (cwV 3 hts (gB_V wB576 wB577 wB578 wB5 wB579) rfl rfl rfl (by decide +kernel) ⟨Nat.le_of_ble_eq_true rfl, Nat.le_of_ble_eq_true rfl⟩) ⟨kP.blind, k_recv hE hP (ci := 6) (q0 := 0) rfl rfl, k_pre hP hD hS hE hA⟩ rfl rfl hl.1 rfl (lv_room (Nat.le_of_ble_eq_true rfl)) dX6_next_97 ⟨Nat.zero_le _, Nat.zero_le _⟩) hD hS hA (fun H locs hP hD hS => ?_)
                        refine lv_dup2_11 hx hb dX6_next_100 rfl rfl ?_
                        obtain ⟨hg101, hf⟩ := gd_s hf
                        refine va_lald (f := (gA r84 1)) hx hb hE.1 hP 12 1 rfl rfl hg101 dX6_next_101 ?_
                        refine lv_aload_n hx hb dX6_next_102 rfl (lv_at hl 0 rfl) ?_
                        refine va_get (ci := 6) (v := .ref (q 11)) (C := RX6) (T := TX6) (N := 26) hx hb hts inlX6 hown hE.1 hP 0 rfl rfl 20 (by decide) (hts _ wB94) (fun _ h9 => h9) rfl dX6_next_103 ?_
                        refine lv_iload hx hb dX6_next_106 (lv_at hl 6 rfl) ?_
                        obtain ⟨hg108, hf⟩ := gd_s hf
                        refine va_lald (f := (gA r84 0)) hx hb hE.1 hP 11 1 rfl rfl hg108 dX6_next_108 ?_
                        refine lv_ladd hx hb dX6_next_109 ?_
                        obtain ⟨hg110, hf⟩ := gd_s hf
                        refine va_last (f := (gA r84 1)) hx hb hE.1 hP hD hS 12 1 rfl rfl hg110 dX6_next_110 (fun H locs hP hD hS => ?_)
                        have hP : va_P D vwCl (WM q cy (sA r84 1 (vp_updL (gA r84 1) (r97.toNatClampNeg) (((gA r84 1) (r97.toNatClampNeg)) + ((gA r84 0) (s73.1.toNatClampNeg))))) ++ rest) H := hP
                        have hD : va_D A (WM q cy (sA r84 1 (vp_updL (gA r84 1) (r97.toNatClampNeg) (((gA r84 1) (r97.toNatClampNeg)) + ((gA r84 0) (s73.1.toNatClampNeg))))) ++ rest) := hD
                        refine lv_iinc (v := (s73.1 + 1)) (lv' := [(7, .int (s73.1 + 1)), (0, .ref (q 0)), (1, .int a1), (2, .int s41.1), (3, .long s41.2.1), (5, .int s32.2.2.1), (6, .int s41.2.2.1)]) hx hb dX6_next_111 hl (k := 6) rfl (by rfl) (by decide) rfl (fun ls hl => ?_)
                        refine lv_goto (tgt := 73) hx hb dX6_next_114 (by decide) ?_
                        obtain rfl := o_ret hf
                        exact ih73 _ _ (lpK_r h73z) _ _ _ hP hD hS (lv_sub hl [1, 2, 3, 4, 5, 6, 0] rfl) K73_0
                  obtain ⟨e73, h73q, hf⟩ := o_bs hf
                  obtain ⟨n73v, h73q⟩ := lpF_ex h73q
                  refine L73 n73v _ e73 h73q _ _ _ hP hD hS (lv_sub hl [1, 2, 3, 4, 5, 6, 0] rfl) ?_
                  intro H locs ls hP hD hS hl
                  refine lv_aload_n hx hb dX6_next_117 rfl (lv_at hl 0 rfl) ?_
                  refine va_get (ci := 6) (v := .ref (q 12)) (C := RX6) (T := TX6) (N := 26) hx hb hts inlX6 hown hE.1 hP 0 rfl rfl 22 (by decide) (hts _ wB95) (fun _ h9 => h9) rfl dX6_next_118 ?_
                  refine lv_iconst (v := 0) hx hb dX6_next_121 (by decide) ?_
                  refine va_lald (f := (gA e73 1)) hx hb hE.1 hP 12 1 rfl rfl (k_in (by decide)) dX6_next_122 ?_
                  refine lv_aload_n hx hb dX6_next_123 rfl (lv_at hl 0 rfl) ?_
                  refine va_get (ci := 6) (v := .ref (q 12)) (C := RX6) (T := TX6) (N := 26) hx hb hts inlX6 hown hE.1 hP 0 rfl rfl 22 (by decide) (hts _ wB95) (fun _ h9 => h9) rfl dX6_next_124 ?_
                  refine lv_iconst (v := 1) hx hb dX6_next_127 (by decide) ?_
                  refine va_lald (f := (gA e73 1)) hx hb hE.1 hP 12 1 rfl rfl (k_in (by decide)) dX6_next_128 ?_
                  refine W.lcmp hx hb dX6_next_129 ?_
                  refine lv_if_le (tgt := 142) hx hb dX6_next_130 (by decide) (fun c130 => ?_) (fun c130 => ?_)
                  · have hf := o_ip c130 hf
                    refine lv_aload_n hx hb dX6_next_142 rfl (lv_at hl 0 rfl) ?_
                    refine va_get (ci := 6) (v := .ref (q 12)) (C := RX6) (T := TX6) (N := 26) hx hb hts inlX6 hown hE.1 hP 0 rfl rfl 22 (by decide) (hts _ wB95) (fun _ h9 => h9) rfl dX6_next_143 ?_
                    refine lv_iconst (v := 1) hx hb dX6_next_146 (by decide) ?_
                    refine va_lald (f := (gA e73 1)) hx hb hE.1 hP 12 1 rfl rfl (k_in (by decide)) dX6_next_147 ?_
                    refine lv_lstore (lv' := [(7, .long ((gA e73 1) ((1 : Int32).toNatClampNeg))), (0, .ref (q 0)), (1, .int a1), (2, .int s41.1), (3, .long s41.2.1), (5, .int s32.2.2.1), (6, .int s41.2.2.1)]) hx hb dX6_next_148 hl (by decide) rfl (fun ls hl => ?_)
                    refine lv_aload_n hx hb dX6_next_150 rfl (lv_at hl 1 rfl) ?_
                    refine va_get (ci := 6) (v := .ref (q 12)) (C := RX6) (T := TX6) (N := 26) hx hb hts inlX6 hown hE.1 hP 0 rfl rfl 22 (by decide) (hts _ wB95) (fun _ h9 => h9) rfl dX6_next_151 ?_
                    refine lv_iconst (v := 2) hx hb dX6_next_154 (by decide) ?_
                    refine va_lald (f := (gA e73 1)) hx hb hE.1 hP 12 1 rfl rfl (k_in (by decide)) dX6_next_155 ?_
                    refine lv_lload hx hb dX6_next_156 (lv_at hl 0 rfl) ?_
                    refine W.lcmp hx hb dX6_next_158 ?_
                    refine lv_if_le (tgt := 171) hx hb dX6_next_159 (by decide) (fun c159 => ?_) (fun c159 => ?_)
                    · have hf := o_ip c159 hf
                      refine lv_lload hx hb dX6_next_171 (lv_at hl 0 rfl) ?_
                      refine lv_lstore (lv' := [(7, .long ((gA e73 1) ((1 : Int32).toNatClampNeg))), (0, .ref (q 0)), (1, .int a1), (2, .int s41.1), (3, .long s41.2.1), (5, .int s32.2.2.1), (6, .int s41.2.2.1)]) hx hb dX6_next_173 hl (by decide) rfl (fun ls hl => ?_)
                      refine lv_iload_n hx hb dX6_next_175 rfl (lv_at hl 3 rfl) ?_
                      refine lv_iconst (v := (-1)) hx hb dX6_next_176 (by decide) ?_
                      refine lv_icmp_eq (tgt := 187) hx hb dX6_next_177 (by decide) (fun c177 => ?_) (fun c177 => ?_)
                      · have hf := o_ip c177 hf
                        refine lv_bipush (v := 10) hx hb dX6_next_187 (by decide) ?_
                        refine lv_iload hx hb dX6_next_189 (lv_at hl 5 rfl) ?_
                        refine lv_imul hx hb dX6_next_191 ?_
                        refine lv_iload hx hb dX6_next_192 (lv_at hl 6 rfl) ?_
                        refine lv_iadd hx hb dX6_next_194 ?_
                        refine lv_istore_n (lv' := [(2, .int ((10 * s32.2.2.1) + s41.2.2.1)), (7, .long ((gA e73 1) ((1 : Int32).toNatClampNeg))), (0, .ref (q 0)), (1, .int a1), (3, .long s41.2.1), (5, .int s32.2.2.1), (6, .int s41.2.2.1)]) hx hb dX6_next_195 rfl hl (by decide) rfl (fun ls hl => ?_)
                        refine lv_lload hx hb dX6_next_196 (lv_at hl 1 rfl) ?_
                        refine lv_lstore_n (lv' := [(3, .long ((gA e73 1) ((1 : Int32).toNatClampNeg))), (2, .int ((10 * s32.2.2.1) + s41.2.2.1)), (7, .long ((gA e73 1) ((1 : Int32).toNatClampNeg))), (0, .ref (q 0)), (1, .int a1), (5, .int s32.2.2.1), (6, .int s41.2.2.1)]) hx hb dX6_next_198 rfl hl (by decide) rfl (fun ls hl => ?_)
                        refine lv_iinc (v := (s41.2.2.1 + 1)) (lv' := [(6, .int (s41.2.2.1 + 1)), (3, .long ((gA e73 1) ((1 : Int32).toNatClampNeg))), (2, .int ((10 * s32.2.2.1) + s41.2.2.1)), (7, .long ((gA e73 1) ((1 : Int32).toNatClampNeg))), (0, .ref (q 0)), (1, .int a1), (5, .int s32.2.2.1)]) hx hb dX6_next_199 hl (k := 6) rfl (by rfl) (by decide) rfl (fun ls hl => ?_)
                        refine lv_goto (tgt := 41) hx hb dX6_next_202 (by decide) ?_
                        obtain rfl := o_ret hf
                        exact ih41 _ _ (lpK_r h41z) _ _ _ hP hD hS (lv_sub hl [4, 5, 2, 1, 6, 0] rfl) K41_0
                      · have hf := o_in c177 hf
                        refine lv_lload hx hb dX6_next_180 (lv_at hl 0 rfl) ?_
                        refine lv_lload_n hx hb dX6_next_182 rfl (lv_at hl 4 rfl) ?_
                        refine W.lcmp hx hb dX6_next_183 ?_
                        refine lv_if_ge (tgt := 199) hx hb dX6_next_184 (by decide) (fun c184 => ?_) (fun c184 => ?_)
                        · have hf := o_ip c184 hf
                          refine lv_iinc (v := (s41.2.2.1 + 1)) (lv' := [(6, .int (s41.2.2.1 + 1)), (7, .long ((gA e73 1) ((1 : Int32).toNatClampNeg))), (0, .ref (q 0)), (1, .int a1), (2, .int s41.1), (3, .long s41.2.1), (5, .int s32.2.2.1)]) hx hb dX6_next_199 hl (k := 6) rfl (by rfl) (by decide) rfl (fun ls hl => ?_)
                          refine lv_goto (tgt := 41) hx hb dX6_next_202 (by decide) ?_
                          obtain rfl := o_ret hf
                          exact ih41 _ _ (lpK_r h41z) _ _ _ hP hD hS (lv_sub hl [2, 3, 4, 5, 6, 0] rfl) K41_0
                        · have hf := o_in c184 hf
                          refine lv_bipush (v := 10) hx hb dX6_next_187 (by decide) ?_
                          refine lv_iload hx hb dX6_next_189 (lv_at hl 5 rfl) ?_
                          refine lv_imul hx hb dX6_next_191 ?_
                          refine lv_iload hx hb dX6_next_192 (lv_at hl 6 rfl) ?_
                          refine lv_iadd hx hb dX6_next_194 ?_
                          refine lv_istore_n (lv' := [(2, .int ((10 * s32.2.2.1) + s41.2.2.1)), (7, .long ((gA e73 1) ((1 : Int32).toNatClampNeg))), (0, .ref (q 0)), (1, .int a1), (3, .long s41.2.1), (5, .int s32.2.2.1), (6, .int s41.2.2.1)]) hx hb dX6_next_195 rfl hl (by decide) rfl (fun ls hl => ?_)
                          refine lv_lload hx hb dX6_next_196 (lv_at hl 1 rfl) ?_
                          refine lv_lstore_n (lv' := [(3, .long ((gA e73 1) ((1 : Int32).toNatClampNeg))), (2, .int ((10 * s32.2.2.1) + s41.2.2.1)), (7, .long ((gA e73 1) ((1 : Int32).toNatClampNeg))), (0, .ref (q 0)), (1, .int a1), (5, .int s32.2.2.1), (6, .int s41.2.2.1)]) hx hb dX6_next_198 rfl hl (by decide) rfl (fun ls hl => ?_)
                          refine lv_iinc (v := (s41.2.2.1 + 1)) (lv' := [(6, .int (s41.2.2.1 + 1)), (3, .long ((gA e73 1) ((1 : Int32).toNatClampNeg))), (2, .int ((10 * s32.2.2.1) + s41.2.2.1)), (7, .long ((gA e73 1) ((1 : Int32).toNatClampNeg))), (0, .ref (q 0)), (1, .int a1), (5, .int s32.2.2.1)]) hx hb dX6_next_199 hl (k := 6) rfl (by rfl) (by decide) rfl (fun ls hl => ?_)
                          refine lv_goto (tgt := 41) hx hb dX6_next_202 (by decide) ?_
                          obtain rfl := o_ret hf
                          exact ih41 _ _ (lpK_r h41z) _ _ _ hP hD hS (lv_sub hl [4, 5, 2, 1, 6, 0] rfl) K41_0
                    · have hf := o_in c159 hf
                      refine lv_aload_n hx hb dX6_next_162 rfl (lv_at hl 1 rfl) ?_
                      refine va_get (ci := 6) (v := .ref (q 12)) (C := RX6) (T := TX6) (N := 26) hx hb hts inlX6 hown hE.1 hP 0 rfl rfl 22 (by decide) (hts _ wB95) (fun _ h9 => h9) rfl dX6_next_163 ?_
                      refine lv_iconst (v := 2) hx hb dX6_next_166 (by decide) ?_
                      refine va_lald (f := (gA e73 1)) hx hb hE.1 hP 12 1 rfl rfl (k_in (by decide)) dX6_next_167 ?_
                      refine lv_goto (tgt := 173) hx hb dX6_next_168 (by decide) ?_
                      refine lv_lstore (lv' := [(7, .long ((gA e73 1) ((2 : Int32).toNatClampNeg))), (0, .ref (q 0)), (1, .int a1), (2, .int s41.1), (3, .long s41.2.1), (5, .int s32.2.2.1), (6, .int s41.2.2.1)]) hx hb dX6_next_173 hl (by decide) rfl (fun ls hl => ?_)
                      refine lv_iload_n hx hb dX6_next_175 rfl (lv_at hl 3 rfl) ?_
                      refine lv_iconst (v := (-1)) hx hb dX6_next_176 (by decide) ?_
                      refine lv_icmp_eq (tgt := 187) hx hb dX6_next_177 (by decide) (fun c177 => ?_) (fun c177 => ?_)
                      · have hf := o_ip c177 hf
                        refine lv_bipush (v := 10) hx hb dX6_next_187 (by decide) ?_
                        refine lv_iload hx hb dX6_next_189 (lv_at hl 5 rfl) ?_
                        refine lv_imul hx hb dX6_next_191 ?_
                        refine lv_iload hx hb dX6_next_192 (lv_at hl 6 rfl) ?_
                        refine lv_iadd hx hb dX6_next_194 ?_
                        refine lv_istore_n (lv' := [(2, .int ((10 * s32.2.2.1) + s41.2.2.1)), (7, .long ((gA e73 1) ((2 : Int32).toNatClampNeg))), (0, .ref (q 0)), (1, .int a1), (3, .long s41.2.1), (5, .int s32.2.2.1), (6, .int s41.2.2.1)]) hx hb dX6_next_195 rfl hl (by decide) rfl (fun ls hl => ?_)
                        refine lv_lload hx hb dX6_next_196 (lv_at hl 1 rfl) ?_
                        refine lv_lstore_n (lv' := [(3, .long ((gA e73 1) ((2 : Int32).toNatClampNeg))), (2, .int ((10 * s32.2.2.1) + s41.2.2.1)), (7, .long ((gA e73 1) ((2 : Int32).toNatClampNeg))), (0, .ref (q 0)), (1, .int a1), (5, .int s32.2.2.1), (6, .int s41.2.2.1)]) hx hb dX6_next_198 rfl hl (by decide) rfl (fun ls hl => ?_)
                        refine lv_iinc (v := (s41.2.2.1 + 1)) (lv' := [(6, .int (s41.2.2.1 + 1)), (3, .long ((gA e73 1) ((2 : Int32).toNatClampNeg))), (2, .int ((10 * s32.2.2.1) + s41.2.2.1)), (7, .long ((gA e73 1) ((2 : Int32).toNatClampNeg))), (0, .ref (q 0)), (1, .int a1), (5, .int s32.2.2.1)]) hx hb dX6_next_199 hl (k := 6) rfl (by rfl) (by decide) rfl (fun ls hl => ?_)
                        refine lv_goto (tgt := 41) hx hb dX6_next_202 (by decide) ?_
                        obtain rfl := o_ret hf
                        exact ih41 _ _ (lpK_r h41z) _ _ _ hP hD hS (lv_sub hl [4, 5, 2, 1, 6, 0] rfl) K41_0
                      · have hf := o_in c177 hf
                        refine lv_lload hx hb dX6_next_180 (lv_at hl 0 rfl) ?_
                        refine lv_lload_n hx hb dX6_next_182 rfl (lv_at hl 4 rfl) ?_
                        refine W.lcmp hx hb dX6_next_183 ?_
                        refine lv_if_ge (tgt := 199) hx hb dX6_next_184 (by decide) (fun c184 => ?_) (fun c184 => ?_)
                        · have hf := o_ip c184 hf
                          refine lv_iinc (v := (s41.2.2.1 + 1)) (lv' := [(6, .int (s41.2.2.1 + 1)), (7, .long ((gA e73 1) ((2 : Int32).toNatClampNeg))), (0, .ref (q 0)), (1, .int a1), (2, .int s41.1), (3, .long s41.2.1), (5, .int s32.2.2.1)]) hx hb dX6_next_199 hl (k := 6) rfl (by rfl) (by decide) rfl (fun ls hl => ?_)
                          refine lv_goto (tgt := 41) hx hb dX6_next_202 (by decide) ?_
                          obtain rfl := o_ret hf
                          exact ih41 _ _ (lpK_r h41z) _ _ _ hP hD hS (lv_sub hl [2, 3, 4, 5, 6, 0] rfl) K41_0
                        · have hf := o_in c184 hf
                          refine lv_bipush (v := 10) hx hb dX6_next_187 (by decide) ?_
                          refine lv_iload hx hb dX6_next_189 (lv_at hl 5 rfl) ?_
                          refine lv_imul hx hb dX6_next_191 ?_
                          refine lv_iload hx hb dX6_next_192 (lv_at hl 6 rfl) ?_
                          refine lv_iadd hx hb dX6_next_194 ?_
                          refine lv_istore_n (lv' := [(2, .int ((10 * s32.2.2.1) + s41.2.2.1)), (7, .long ((gA e73 1) ((2 : Int32).toNatClampNeg))), (0, .ref (q 0)), (1, .int a1), (3, .long s41.2.1), (5, .int s32.2.2.1), (6, .int s41.2.2.1)]) hx hb dX6_next_195 rfl hl (by decide) rfl (fun ls hl => ?_)
                          refine lv_lload hx hb dX6_next_196 (lv_at hl 1 rfl) ?_
                          refine lv_lstore_n (lv' := [(3, .long ((gA e73 1) ((2 : Int32).toNatClampNeg))), (2, .int ((10 * s32.2.2.1) + s41.2.2.1)), (7, .long ((gA e73 1) ((2 : Int32).toNatClampNeg))), (0, .ref (q 0)), (1, .int a1), (5, .int s32.2.2.1), (6, .int s41.2.2.1)]) hx hb dX6_next_198 rfl hl (by decide) rfl (fun ls hl => ?_)
                          refine lv_iinc (v := (s41.2.2.1 + 1)) (lv' := [(6, .int (s41.2.2.1 + 1)), (3, .long ((gA e73 1) ((2 : Int32).toNatClampNeg))), (2, .int ((10 * s32.2.2.1) + s41.2.2.1)), (7, .long ((gA e73 1) ((2 : Int32).toNatClampNeg))), (0, .ref (q 0)), (1, .int a1), (5, .int s32.2.2.1)]) hx hb dX6_next_199 hl (k := 6) rfl (by rfl) (by decide) rfl (fun ls hl => ?_)
                          refine lv_goto (tgt := 41) hx hb dX6_next_202 (by decide) ?_
                          obtain rfl := o_ret hf
                          exact ih41 _ _ (lpK_r h41z) _ _ _ hP hD hS (lv_sub hl [4, 5, 2, 1, 6, 0] rfl) K41_0
                  · have hf := o_in c130 hf
                    refine lv_aload_n hx hb dX6_next_133 rfl (lv_at hl 0 rfl) ?_
                    refine va_get (ci := 6) (v := .ref (q 12)) (C := RX6) (T := TX6) (N := 26) hx hb hts inlX6 hown hE.1 hP 0 rfl rfl 22 (by decide) (hts _ wB95) (fun _ h9 => h9) rfl dX6_next_134 ?_
                    refine lv_iconst (v := 0) hx hb dX6_next_137 (by decide) ?_
                    refine va_lald (f := (gA e73 1)) hx hb hE.1 hP 12 1 rfl rfl (k_in (by decide)) dX6_next_138 ?_
                    refine lv_goto (tgt := 148) hx hb dX6_next_139 (by decide) ?_
                    refine lv_lstore (lv' := [(7, .long ((gA e73 1) ((0 : Int32).toNatClampNeg))), (0, .ref (q 0)), (1, .int a1), (2, .int s41.1), (3, .long s41.2.1), (5, .int s32.2.2.1), (6, .int s41.2.2.1)]) hx hb dX6_next_148 hl (by decide) rfl (fun ls hl => ?_)
                    refine lv_aload_n hx hb dX6_next_150 rfl (lv_at hl 1 rfl) ?_
                    refine va_get (ci := 6) (v := .ref (q 12)) (C := RX6) (T := TX6) (N := 26) hx hb hts inlX6 hown hE.1 hP 0 rfl rfl 22 (by decide) (hts _ wB95) (fun _ h9 => h9) rfl dX6_next_151 ?_
                    refine lv_iconst (v := 2) hx hb dX6_next_154 (by decide) ?_
                    refine va_lald (f := (gA e73 1)) hx hb hE.1 hP 12 1 rfl rfl (k_in (by decide)) dX6_next_155 ?_
                    refine lv_lload hx hb dX6_next_156 (lv_at hl 0 rfl) ?_
                    refine W.lcmp hx hb dX6_next_158 ?_
                    refine lv_if_le (tgt := 171) hx hb dX6_next_159 (by decide) (fun c159 => ?_) (fun c159 => ?_)
                    · have hf := o_ip c159 hf
                      refine lv_lload hx hb dX6_next_171 (lv_at hl 0 rfl) ?_
                      refine lv_lstore (lv' := [(7, .long ((gA e73 1) ((0 : Int32).toNatClampNeg))), (0, .ref (q 0)), (1, .int a1), (2, .int s41.1), (3, .long s41.2.1), (5, .int s32.2.2.1), (6, .int s41.2.2.1)]) hx hb dX6_next_173 hl (by decide) rfl (fun ls hl => ?_)
                      refine lv_iload_n hx hb dX6_next_175 rfl (lv_at hl 3 rfl) ?_
                      refine lv_iconst (v := (-1)) hx hb dX6_next_176 (by decide) ?_
                      refine lv_icmp_eq (tgt := 187) hx hb dX6_next_177 (by decide) (fun c177 => ?_) (fun c177 => ?_)
                      · have hf := o_ip c177 hf
                        refine lv_bipush (v := 10) hx hb dX6_next_187 (by decide) ?_
                        refine lv_iload hx hb dX6_next_189 (lv_at hl 5 rfl) ?_
                        refine lv_imul hx hb dX6_next_191 ?_
                        refine lv_iload hx hb dX6_next_192 (lv_at hl 6 rfl) ?_
                        refine lv_iadd hx hb dX6_next_194 ?_
                        refine lv_istore_n (lv' := [(2, .int ((10 * s32.2.2.1) + s41.2.2.1)), (7, .long ((gA e73 1) ((0 : Int32).toNatClampNeg))), (0, .ref (q 0)), (1, .int a1), (3, .long s41.2.1), (5, .int s32.2.2.1), (6, .int s41.2.2.1)]) hx hb dX6_next_195 rfl hl (by decide) rfl (fun ls hl => ?_)
                        refine lv_lload hx hb dX6_next_196 (lv_at hl 1 rfl) ?_
                        refine lv_lstore_n (lv' := [(3, .long ((gA e73 1) ((0 : Int32).toNatClampNeg))), (2, .int ((10 * s32.2.2.1) + s41.2.2.1)), (7, .long ((gA e73 1) ((0 : Int32).toNatClampNeg))), (0, .ref (q 0)), (1, .int a1), (5, .int s32.2.2.1), (6, .int s41.2.2.1)]) hx hb dX6_next_198 rfl hl (by decide) rfl (fun ls hl => ?_)
                        refine lv_iinc (v := (s41.2.2.1 + 1)) (lv' := [(6, .int (s41.2.2.1 + 1)), (3, .long ((gA e73 1) ((0 : Int32).toNatClampNeg))), (2, .int ((10 * s32.2.2.1) + s41.2.2.1)), (7, .long ((gA e73 1) ((0 : Int32).toNatClampNeg))), (0, .ref (q 0)), (1, .int a1), (5, .int s32.2.2.1)]) hx hb dX6_next_199 hl (k := 6) rfl (by rfl) (by decide) rfl (fun ls hl => ?_)
                        refine lv_goto (tgt := 41) hx hb dX6_next_202 (by decide) ?_
                        obtain rfl := o_ret hf
                        exact ih41 _ _ (lpK_r h41z) _ _ _ hP hD hS (lv_sub hl [4, 5, 2, 1, 6, 0] rfl) K41_0
                      · have hf := o_in c177 hf
                        refine lv_lload hx hb dX6_next_180 (lv_at hl 0 rfl) ?_
                        refine lv_lload_n hx hb dX6_next_182 rfl (lv_at hl 4 rfl) ?_
                        refine W.lcmp hx hb dX6_next_183 ?_
                        refine lv_if_ge (tgt := 199) hx hb dX6_next_184 (by decide) (fun c184 => ?_) (fun c184 => ?_)
                        · have hf := o_ip c184 hf
                          refine lv_iinc (v := (s41.2.2.1 + 1)) (lv' := [(6, .int (s41.2.2.1 + 1)), (7, .long ((gA e73 1) ((0 : Int32).toNatClampNeg))), (0, .ref (q 0)), (1, .int a1), (2, .int s41.1), (3, .long s41.2.1), (5, .int s32.2.2.1)]) hx hb dX6_next_199 hl (k := 6) rfl (by rfl) (by decide) rfl (fun ls hl => ?_)
                          refine lv_goto (tgt := 41) hx hb dX6_next_202 (by decide) ?_
                          obtain rfl := o_ret hf
                          exact ih41 _ _ (lpK_r h41z) _ _ _ hP hD hS (lv_sub hl [2, 3, 4, 5, 6, 0] rfl) K41_0
                        · have hf := o_in c184 hf
                          refine lv_bipush (v := 10) hx hb dX6_next_187 (by decide) ?_
                          refine lv_iload hx hb dX6_next_189 (lv_at hl 5 rfl) ?_
                          refine lv_imul hx hb dX6_next_191 ?_
                          refine lv_iload hx hb dX6_next_192 (lv_at hl 6 rfl) ?_
                          refine lv_iadd hx hb dX6_next_194 ?_
                          refine lv_istore_n (lv' := [(2, .int ((10 * s32.2.2.1) + s41.2.2.1)), (7, .long ((gA e73 1) ((0 : Int32).toNatClampNeg))), (0, .ref (q 0)), (1, .int a1), (3, .long s41.2.1), (5, .int s32.2.2.1), (6, .int s41.2.2.1)]) hx hb dX6_next_195 rfl hl (by decide) rfl (fun ls hl => ?_)
                          refine lv_lload hx hb dX6_next_196 (lv_at hl 1 rfl) ?_
                          refine lv_lstore_n (lv' := [(3, .long ((gA e73 1) ((0 : Int32).toNatClampNeg))), (2, .int ((10 * s32.2.2.1) + s41.2.2.1)), (7, .long ((gA e73 1) ((0 : Int32).toNatClampNeg))), (0, .ref (q 0)), (1, .int a1), (5, .int s32.2.2.1), (6, .int s41.2.2.1)]) hx hb dX6_next_198 rfl hl (by decide) rfl (fun ls hl => ?_)
                          refine lv_iinc (v := (s41.2.2.1 + 1)) (lv' := [(6, .int (s41.2.2.1 + 1)), (3, .long ((gA e73 1) ((0 : Int32).toNatClampNeg))), (2, .int ((10 * s32.2.2.1) + s41.2.2.1)), (7, .long ((gA e73 1) ((0 : Int32).toNatClampNeg))), (0, .ref (q 0)), (1, .int a1), (5, .int s32.2.2.1)]) hx hb dX6_next_199 hl (k := 6) rfl (by rfl) (by decide) rfl (fun ls hl => ?_)
                          refine lv_goto (tgt := 41) hx hb dX6_next_202 (by decide) ?_
                          obtain rfl := o_ret hf
                          exact ih41 _ _ (lpK_r h41z) _ _ _ hP hD hS (lv_sub hl [4, 5, 2, 1, 6, 0] rfl) K41_0
                    · have hf := o_in c159 hf
                      refine lv_aload_n hx hb dX6_next_162 rfl (lv_at hl 1 rfl) ?_
                      refine va_get (ci := 6) (v := .ref (q 12)) (C := RX6) (T := TX6) (N := 26) hx hb hts inlX6 hown hE.1 hP 0 rfl rfl 22 (by decide) (hts _ wB95) (fun _ h9 => h9) rfl dX6_next_163 ?_
                      refine lv_iconst (v := 2) hx hb dX6_next_166 (by decide) ?_
                      refine va_lald (f := (gA e73 1)) hx hb hE.1 hP 12 1 rfl rfl (k_in (by decide)) dX6_next_167 ?_
                      refine lv_goto (tgt := 173) hx hb dX6_next_168 (by decide) ?_
                      refine lv_lstore (lv' := [(7, .long ((gA e73 1) ((2 : Int32).toNatClampNeg))), (0, .ref (q 0)), (1, .int a1), (2, .int s41.1), (3, .long s41.2.1), (5, .int s32.2.2.1), (6, .int s41.2.2.1)]) hx hb dX6_next_173 hl (by decide) rfl (fun ls hl => ?_)
                      refine lv_iload_n hx hb dX6_next_175 rfl (lv_at hl 3 rfl) ?_
                      refine lv_iconst (v := (-1)) hx hb dX6_next_176 (by decide) ?_
                      refine lv_icmp_eq (tgt := 187) hx hb dX6_next_177 (by decide) (fun c177 => ?_) (fun c177 => ?_)
                      · have hf := o_ip c177 hf
                        refine lv_bipush (v := 10) hx hb dX6_next_187 (by decide) ?_
                        refine lv_iload hx hb dX6_next_189 (lv_at hl 5 rfl) ?_
                        refine lv_imul hx hb dX6_next_191 ?_
                        refine lv_iload hx hb dX6_next_192 (lv_at hl 6 rfl) ?_
                        refine lv_iadd hx hb dX6_next_194 ?_
                        refine lv_istore_n (lv' := [(2, .int ((10 * s32.2.2.1) + s41.2.2.1)), (7, .long ((gA e73 1) ((2 : Int32).toNatClampNeg))), (0, .ref (q 0)), (1, .int a1), (3, .long s41.2.1), (5, .int s32.2.2.1), (6, .int s41.2.2.1)]) hx hb dX6_next_195 rfl hl (by decide) rfl (fun ls hl => ?_)
                        refine lv_lload hx hb dX6_next_196 (lv_at hl 1 rfl) ?_
                        refine lv_lstore_n (lv' := [(3, .long ((gA e73 1) ((2 : Int32).toNatClampNeg))), (2, .int ((10 * s32.2.2.1) + s41.2.2.1)), (7, .long ((gA e73 1) ((2 : Int32).toNatClampNeg))), (0, .ref (q 0)), (1, .int a1), (5, .int s32.2.2.1), (6, .int s41.2.2.1)]) hx hb dX6_next_198 rfl hl (by decide) rfl (fun ls hl => ?_)
                        refine lv_iinc (v := (s41.2.2.1 + 1)) (lv' := [(6, .int (s41.2.2.1 + 1)), (3, .long ((gA e73 1) ((2 : Int32).toNatClampNeg))), (2, .int ((10 * s32.2.2.1) + s41.2.2.1)), (7, .long ((gA e73 1) ((2 : Int32).toNatClampNeg))), (0, .ref (q 0)), (1, .int a1), (5, .int s32.2.2.1)]) hx hb dX6_next_199 hl (k := 6) rfl (by rfl) (by decide) rfl (fun ls hl => ?_)
                        refine lv_goto (tgt := 41) hx hb dX6_next_202 (by decide) ?_
                        obtain rfl := o_ret hf
                        exact ih41 _ _ (lpK_r h41z) _ _ _ hP hD hS (lv_sub hl [4, 5, 2, 1, 6, 0] rfl) K41_0
                      · have hf := o_in c177 hf
                        refine lv_lload hx hb dX6_next_180 (lv_at hl 0 rfl) ?_
                        refine lv_lload_n hx hb dX6_next_182 rfl (lv_at hl 4 rfl) ?_
                        refine W.lcmp hx hb dX6_next_183 ?_
                        refine lv_if_ge (tgt := 199) hx hb dX6_next_184 (by decide) (fun c184 => ?_) (fun c184 => ?_)
                        · have hf := o_ip c184 hf
                          refine lv_iinc (v := (s41.2.2.1 + 1)) (lv' := [(6, .int (s41.2.2.1 + 1)), (7, .long ((gA e73 1) ((2 : Int32).toNatClampNeg))), (0, .ref (q 0)), (1, .int a1), (2, .int s41.1), (3, .long s41.2.1), (5, .int s32.2.2.1)]) hx hb dX6_next_199 hl (k := 6) rfl (by rfl) (by decide) rfl (fun ls hl => ?_)
                          refine lv_goto (tgt := 41) hx hb dX6_next_202 (by decide) ?_
                          obtain rfl := o_ret hf
                          exact ih41 _ _ (lpK_r h41z) _ _ _ hP hD hS (lv_sub hl [2, 3, 4, 5, 6, 0] rfl) K41_0
                        · have hf := o_in c184 hf
                          refine lv_bipush (v := 10) hx hb dX6_next_187 (by decide) ?_
                          refine lv_iload hx hb dX6_next_189 (lv_at hl 5 rfl) ?_
                          refine lv_imul hx hb dX6_next_191 ?_
                          refine lv_iload hx hb dX6_next_192 (lv_at hl 6 rfl) ?_
                          refine lv_iadd hx hb dX6_next_194 ?_
                          refine lv_istore_n (lv' := [(2, .int ((10 * s32.2.2.1) + s41.2.2.1)), (7, .long ((gA e73 1) ((2 : Int32).toNatClampNeg))), (0, .ref (q 0)), (1, .int a1), (3, .long s41.2.1), (5, .int s32.2.2.1), (6, .int s41.2.2.1)]) hx hb dX6_next_195 rfl hl (by decide) rfl (fun ls hl => ?_)
                          refine lv_lload hx hb dX6_next_196 (lv_at hl 1 rfl) ?_
                          refine lv_lstore_n (lv' := [(3, .long ((gA e73 1) ((2 : Int32).toNatClampNeg))), (2, .int ((10 * s32.2.2.1) + s41.2.2.1)), (7, .long ((gA e73 1) ((2 : Int32).toNatClampNeg))), (0, .ref (q 0)), (1, .int a1), (5, .int s32.2.2.1), (6, .int s41.2.2.1)]) hx hb dX6_next_198 rfl hl (by decide) rfl (fun ls hl => ?_)
                          refine lv_iinc (v := (s41.2.2.1 + 1)) (lv' := [(6, .int (s41.2.2.1 + 1)), (3, .long ((gA e73 1) ((2 : Int32).toNatClampNeg))), (2, .int ((10 * s32.2.2.1) + s41.2.2.1)), (7, .long ((gA e73 1) ((2 : Int32).toNatClampNeg))), (0, .ref (q 0)), (1, .int a1), (5, .int s32.2.2.1)]) hx hb dX6_next_199 hl (k := 6) rfl (by rfl) (by decide) rfl (fun ls hl => ?_)
                          refine lv_goto (tgt := 41) hx hb dX6_next_202 (by decide) ?_
                          obtain rfl := o_ret hf
                          exact ih41 _ _ (lpK_r h41z) _ _ _ hP hD hS (lv_sub hl [4, 5, 2, 1, 6, 0] rfl) K41_0
            obtain ⟨e41, h41q, hf⟩ := o_bs hf
            obtain ⟨n41v, h41q⟩ := lpF_ex h41q
            refine L41 n41v _ e41 h41q _ _ _ hP hD hS (lv_sub hl [1, 2, 3, 4, 5, 0] rfl) ?_
            intro H locs ls hP hD hS hl
            refine lv_iinc (v := (s32.2.2.1 + 1)) (lv' := [(5, .int (s32.2.2.1 + 1)), (0, .ref (q 0)), (1, .int a1), (2, .int e41.1), (3, .long e41.2.1)]) hx hb dX6_next_205 hl (k := 4) rfl (by rfl) (by decide) rfl (fun ls hl => ?_)
            refine lv_goto (tgt := 32) hx hb dX6_next_208 (by decide) ?_
            obtain rfl := o_ret hf
            exact ih32 _ _ (lpK_r h32z) _ _ _ hP hD hS (lv_sub hl [1, 2, 3, 4, 0] rfl) K32_0
      obtain ⟨e32, h32q, hf⟩ := o_bs hf
      obtain ⟨n32v, h32q⟩ := lpF_ex h32q
      refine L32 n32v _ e32 h32q _ _ _ hP hD hS (lv_sub hl [3, 4, 2, 1, 0] rfl) ?_
      intro H locs ls hP hD hS hl
      refine lv_iload_n hx hb dX6_next_211 rfl (lv_at hl 0 rfl) ?_
      obtain rfl := o_ret hf
      exact k_iret hx hb hr hP hD hS (Nat.zero_le _) (Nat.zero_le _) hlocks dX6_next_212
    · have hf := o_ip c17 hf
      refine lv_aload_n hx hb dX6_next_20 rfl (lv_at hl 0 rfl) ?_
      obtain ⟨r21, h21r, hf⟩ := o_bs hf
      refine k_goi (va_runV (As := []) (rest := []) ⟨hx, hb, hml, hown, hts⟩ (zX6_bad l D cy sa q rest H.size r1.2  r21 h21r) (cwV 0 hts (gB_V wB144 wB145 wB146 wB5 wB147) rfl rfl rfl (by decide +kernel) ⟨Nat.le_of_ble_eq_true rfl, Nat.le_of_ble_eq_true rfl⟩) ⟨kP.blind, k_recv hE hP (ci := 6) (q0 := 0) rfl rfl, k_pre hP hD hS hE hA⟩ rfl rfl hl.1 rfl (lv_room (Nat.le_of_ble_eq_true rfl)) dX6_next_21 ⟨Nat.zero_le _, Nat.zero_le _⟩) hD hS hA (fun H locs hP hD hS => ?_)
      obtain rfl := o_ret hf
      exact k_iret hx hb hr hP hD hS (Nat.zero_le _) (Nat.zero_le _) hlocks dX6_next_24
  · have hf := o_ip c4 hf
    refine lv_aload_n hx hb dX6_next_7 rfl (lv_at hl 0 rfl) ?_
    obtain ⟨r8, h8r, hf⟩ := o_bs hf
    refine k_goi (va_runV (As := []) (rest := []) ⟨hx, hb, hml, hown, hts⟩ (zX6_no l D cy sa q rest H.size r1.2  r8 h8r) (cwV 0 hts (gB_V wB328 wB329 wB330 wB5 wB331) rfl rfl rfl (by decide +kernel) ⟨Nat.le_of_ble_eq_true rfl, Nat.le_of_ble_eq_true rfl⟩) ⟨kP.blind, k_recv hE hP (ci := 6) (q0 := 0) rfl rfl, k_pre hP hD hS hE hA⟩ rfl rfl hl.1 rfl (lv_room (Nat.le_of_ble_eq_true rfl)) dX6_next_8 ⟨Nat.zero_le _, Nat.zero_le _⟩) hD hS hA (fun H locs hP hD hS => ?_)
    obtain rfl := o_ret hf
    exact k_iret hx hb hr hP hD hS (Nat.zero_le _) (Nat.zero_le _) hlocks dX6_next_11
noncomputable def mX6_odds_s46 (c1 : Int32) (c2 : Int32) (s46 : Int64 × Int32 × KS) : Option (((Int64 × KS)) ⊕ (Int64 × Int32 × KS)) :=
  if 2731 ≤ s46.2.1 then
  (some (.inl (s46.1, s46.2.2)))
  else
  ((mX6_opens s46.2.2 s46.2.1).bind fun r57 =>
  if (gI r57 6) = c1 then
  (if (gI r57 8) = (-1) then
  (if 7 = c2 then
  (gd (inb s46.2.1 2731) (some (.inr ((s46.1 + ((gA r57 0) (s46.2.1.toNatClampNeg))), (s46.2.1 + 1), r57))))
  else
  (some (.inr ((s46.1 + 0), (s46.2.1 + 1), r57))))
  else
  (if ((gI r57 8) / 3) = c2 then
  (gd (inb s46.2.1 2731) (some (.inr ((s46.1 + ((gA r57 0) (s46.2.1.toNatClampNeg))), (s46.2.1 + 1), r57))))
  else
  (some (.inr ((s46.1 + 0), (s46.2.1 + 1), r57)))))
  else
  (if (gI r57 7) = c1 then
  (if (gI r57 9) = (-1) then
  (if 7 = c2 then
  (gd (inb s46.2.1 2731) (some (.inr ((s46.1 + ((gA r57 0) (s46.2.1.toNatClampNeg))), (s46.2.1 + 1), r57))))
  else
  (some (.inr ((s46.1 + 0), (s46.2.1 + 1), r57))))
  else
  (if ((gI r57 9) / 3) = c2 then
  (gd (inb s46.2.1 2731) (some (.inr ((s46.1 + ((gA r57 0) (s46.2.1.toNatClampNeg))), (s46.2.1 + 1), r57))))
  else
  (some (.inr ((s46.1 + 0), (s46.2.1 + 1), r57)))))
  else
  (if 7 = c2 then
  (gd (inb s46.2.1 2731) (some (.inr ((s46.1 + ((gA r57 0) (s46.2.1.toNatClampNeg))), (s46.2.1 + 1), r57))))
  else
  (some (.inr ((s46.1 + 0), (s46.2.1 + 1), r57))))))
noncomputable def mX6_odds (u : KS) (a1 : Int32) (a2 : Int32) : Option (Int32 × KS) :=
  (mX6_in (a1.toInt64) 0 3).bind fun r6 =>
  if r6 = 0 then
  ((mX6_bad u).bind fun r25 =>
  some (r25.1, r25.2))
  else
  ((mX6_in (a2.toInt64) 0 7).bind fun r18 =>
  if r18 = 0 then
  ((mX6_bad u).bind fun r25 =>
  some (r25.1, r25.2))
  else
  ((mX6_weighs u).bind fun r30 =>
  if r30.1 = 0 then
  ((mX6_no r30.2).bind fun r37 =>
  some (r37.1, r37.2))
  else
  ((lpF (mX6_odds_s46 a1 a2) (0, 0, r30.2)).bind fun e46 =>
  (mX6_tells e46.2 e46.1 (gL e46.2 0)).bind fun r138 =>
  some (r138.1, r138.2))))
abbrev rmX6_odds : Room := { frames := 6, cells := 0, slots := 0, locals := 143 }
set_option maxRecDepth 100000 in
set_option maxHeartbeats 4000000 in
theorem zX6_odds (l : Launch) (D : va_G) (cy : Nat → ClassId) (sa : Nat → Nat) (q : Nat → Nat) (rest : va_W) (sz : Nat) (u : KS) (a1 : Int32) (a2 : Int32) (res : Int32 × KS) (hf : mX6_odds u a1 a2 = some res) : kMi l yX6_odds (wsK yX6_odds cX6_odds 7 (some .int)) rmX6_odds D cy sa (WM q cy u ++ rest) sz [.ref (q 0), .int a1, .int a2] res.1 (WM q cy res.2 ++ rest) 0 0 := by
  refine kM_of (Qc := fun A => kQi D A res.1 (WM q cy res.2 ++ rest)) (cc := cX6_odds) (maxL := 7) (ret := (some .int)) (by decide) (Nat.le_of_ble_eq_true rfl) ?_
  intro p e s m below meth c A hx hb hml hr hts hown hlocks hin hA hP hD hS hE hsz ls hl
  have hown : s.vm.findClass RX6 = some m.cls := hown
  obtain ⟨H, hH0⟩ : ∃ H, H = s.heap := ⟨_, rfl⟩
  obtain ⟨locs, hlocs0⟩ : ∃ locs : List Loc, locs = [] := ⟨_, rfl⟩
  have hP : va_P D vwCl (WM q cy u ++ rest) H := by rw [hH0]; exact hP
  have hS : va_S A s.heap H locs := by rw [hH0, hlocs0]; exact hS
  have hl : lv_has ls 7 [(0, .ref (q 0)), (1, .int a1), (2, .int a2)] := hl
  suffices hgoal : W p l e rmX6_odds s m ([.ref (q 0), .int a1, .int a2] : List Value).toArray below meth c H locs 0 0 (MQ below (kQi D A res.1 (WM q cy res.2 ++ rest)) ([.ref (q 0), .int a1, .int a2] : List Value).toArray s 0 0 A) (F0 m 0 ls []) by rw [hH0, hlocs0] at hgoal; exact hgoal
  clear hH0 hlocs0
  unfold mX6_odds at hf
  refine lv_iload_n hx hb dX6_odds_0 rfl (lv_at hl 1 rfl) ?_
  refine lv_i2l (v := (a1.toInt64)) hx hb dX6_odds_1 rfl ?_
  refine lv_lconst (v := 0) hx hb dX6_odds_2 (by decide) ?_
  refine lv_ldc2 (v := 3) hx hb hown (hts _ wB376) dX6_odds_3 ?_
  obtain ⟨r6, h6r, hf⟩ := o_bs hf
  refine k_goi (va_runS (As := [.long (a1.toInt64), .long 0, .long 3]) (rest := []) ⟨hx, hb, hml, hown, hts⟩ (zX6_in l D cy sa (WM q cy u ++ rest) H.size (a1.toInt64) 0 3  r6  h6r) (va_cwS 3 hts (gB_S wB141 wB142 wB5 wB143) rfl rfl rfl (by decide +kernel) ⟨Nat.le_of_ble_eq_true rfl, Nat.le_of_ble_eq_true rfl⟩) ⟨kP.blind, k_pre hP hD hS hE hA⟩ rfl rfl hl.1 rfl (lv_room (Nat.le_of_ble_eq_true rfl)) dX6_odds_6 ⟨Nat.zero_le _, Nat.zero_le _⟩) hD hS hA (fun H locs hP hD hS => ?_)
  refine lv_if_eq (tgt := 24) hx hb dX6_odds_9 (by decide) (fun c9 => ?_) (fun c9 => ?_)
  · have hf := o_ip c9 hf
    refine lv_aload_n hx hb dX6_odds_24 rfl (lv_at hl 0 rfl) ?_
    obtain ⟨r25, h25r, hf⟩ := o_bs hf
    refine k_goi (va_runV (As := []) (rest := []) ⟨hx, hb, hml, hown, hts⟩ (zX6_bad l D cy sa q rest H.size u  r25 h25r) (cwV 0 hts (gB_V wB144 wB145 wB146 wB5 wB147) rfl rfl rfl (by decide +kernel) ⟨Nat.le_of_ble_eq_true rfl, Nat.le_of_ble_eq_true rfl⟩) ⟨kP.blind, k_recv hE hP (ci := 6) (q0 := 0) rfl rfl, k_pre hP hD hS hE hA⟩ rfl rfl hl.1 rfl (lv_room (Nat.le_of_ble_eq_true rfl)) dX6_odds_25 ⟨Nat.zero_le _, Nat.zero_le _⟩) hD hS hA (fun H locs hP hD hS => ?_)
    obtain rfl := o_ret hf
    exact k_iret hx hb hr hP hD hS (Nat.zero_le _) (Nat.zero_le _) hlocks dX6_odds_28
  · have hf := o_in c9 hf
    refine lv_iload_n hx hb dX6_odds_12 rfl (lv_at hl 2 rfl) ?_
    refine lv_i2l (v := (a2.toInt64)) hx hb dX6_odds_13 rfl ?_
    refine lv_lconst (v := 0) hx hb dX6_odds_14 (by decide) ?_
    refine lv_ldc2 (v := 7) hx hb hown (hts _ wB557) dX6_odds_15 ?_
    obtain ⟨r18, h18r, hf⟩ := o_bs hf
    refine k_goi (va_runS (As := [.long (a2.toInt64), .long 0, .long 7]) (rest := []) ⟨hx, hb, hml, hown, hts⟩ (zX6_in l D cy sa (WM q cy u ++ rest) H.size (a2.toInt64) 0 7  r18  h18r) (va_cwS 3 hts (gB_S wB141 wB142 wB5 wB143) rfl rfl rfl (by decide +kernel) ⟨Nat.le_of_ble_eq_true rfl, Nat.le_of_ble_eq_true rfl⟩) ⟨kP.blind, k_pre hP hD hS hE hA⟩ rfl rfl hl.1 rfl (lv_room (Nat.le_of_ble_eq_true rfl)) dX6_odds_18 ⟨Nat.zero_le _, Nat.zero_le _⟩) hD hS hA (fun H locs hP hD hS => ?_)
    refine lv_if_ne (tgt := 29) hx hb dX6_odds_21 (by decide) (fun c21 => ?_) (fun c21 => ?_)
    · have hf := o_in c21 hf
      refine lv_aload_n hx hb dX6_odds_29 rfl (lv_at hl 0 rfl) ?_
      obtain ⟨r30, h30r, hf⟩ := o_bs hf
      refine k_goi (va_runV (As := []) (rest := []) ⟨hx, hb, hml, hown, hts⟩ (zX6_weighs l D cy sa q rest H.size u  r30 h30r) (cwV 0 hts (gB_V wB563 wB564 wB565 wB5 wB566) rfl rfl rfl (by decide +kernel) ⟨Nat.le_of_ble_eq_true rfl, Nat.le_of_ble_eq_true rfl⟩) ⟨kP.blind, k_recv hE hP (ci := 6) (q0 := 0) rfl rfl, k_pre hP hD hS hE hA⟩ rfl rfl hl.1 rfl (lv_room (Nat.le_of_ble_eq_true rfl)) dX6_odds_30 ⟨Nat.zero_le _, Nat.zero_le _⟩) hD hS hA (fun H locs hP hD hS => ?_)
      refine lv_if_ne (tgt := 41) hx hb dX6_odds_33 (by decide) (fun c33 => ?_) (fun c33 => ?_)
      · have hf := o_in c33 hf
        refine lv_lconst (v := 0) hx hb dX6_odds_41 (by decide) ?_
        refine lv_lstore_n (lv' := [(3, .long 0), (0, .ref (q 0)), (1, .int a1), (2, .int a2)]) hx hb dX6_odds_42 rfl hl (by decide) rfl (fun ls hl => ?_)
        refine lv_iconst (v := 0) hx hb dX6_odds_43 (by decide) ?_
        refine lv_istore (lv' := [(5, .int 0), (3, .long 0), (0, .ref (q 0)), (1, .int a1), (2, .int a2)]) hx hb dX6_odds_44 hl (by decide) rfl (fun ls hl => ?_)
        have L46 : ∀ (n46v : Nat) (s46 : Int64 × Int32 × KS) (e46 : (Int64 × KS)), lpO (mX6_odds_s46 a1 a2) n46v s46 = some e46 → ∀ (H : Heap) (locs : List Loc) (ls : Array Slot), va_P D vwCl (WM q cy s46.2.2 ++ rest) H → va_D A (WM q cy s46.2.2 ++ rest) → va_S A s.heap H locs → lv_has ls 7 [(0, .ref (q 0)), (1, .int a1), (2, .int a2), (3, .long s46.1), (5, .int s46.2.1)] → (∀ (H : Heap) (locs : List Loc) (ls : Array Slot), va_P D vwCl (WM q cy e46.2 ++ rest) H → va_D A (WM q cy e46.2 ++ rest) → va_S A s.heap H locs → lv_has ls 7 [(0, .ref (q 0)), (3, .long e46.1)] → W p l e rmX6_odds s m ([.ref (q 0), .int a1, .int a2] : List Value).toArray below meth c H locs 0 0 (MQ below (kQi D A res.1 (WM q cy res.2 ++ rest)) ([.ref (q 0), .int a1, .int a2] : List Value).toArray s 0 0 A) (F0 m 132 ls [])) → W p l e rmX6_odds s m ([.ref (q 0), .int a1, .int a2] : List Value).toArray below meth c H locs 0 0 (MQ below (kQi D A res.1 (WM q cy res.2 ++ rest)) ([.ref (q 0), .int a1, .int a2] : List Value).toArray s 0 0 A) (F0 m 46 ls []) := by
          intro n46v
          induction n46v with
          | zero => intro s46 e46 h; exact (lpO_z h).elim
          | succ n46v ih46 =>
            intro s46 e46 h46z H locs ls hP hD hS hl K46_0
            obtain ⟨x46, hf, h46z⟩ := lpO_s h46z
            unfold mX6_odds_s46 at hf
            refine lv_iload hx hb dX6_odds_46 (lv_at hl 4 rfl) ?_
            refine lv_sipush (v := 2731) hx hb dX6_odds_48 (by decide) ?_
            refine lv_icmp_ge (tgt := 132) hx hb dX6_odds_51 (by decide) (fun c51 => ?_) (fun c51 => ?_)
            · have hf := o_ip c51 hf
              obtain rfl := o_ret hf
              obtain rfl := lpK_l h46z
              exact K46_0 _ _ _ hP hD hS (lv_sub hl [0, 3] rfl)
            · have hf := o_in c51 hf
              refine lv_aload_n hx hb dX6_odds_54 rfl (lv_at hl 0 rfl) ?_
              refine lv_iload hx hb dX6_odds_55 (lv_at hl 4 rfl) ?_
              obtain ⟨r57, h57r, hf⟩ := o_bs hf
              refine k_gov (va_runV (As := [.int s46.2.1]) (rest := []) ⟨hx, hb, hml, hown, hts⟩ (zX6_opens l D cy sa q rest H.size s46.2.2 s46.2.1 r57 h57r) (cwV 1 hts (gB_V wB567 wB568 wB569 wB5 wB570) rfl rfl rfl (by decide +kernel) ⟨Nat.le_of_ble_eq_true rfl, Nat.le_of_ble_eq_true rfl⟩) ⟨kP.blind, k_recv hE hP (ci := 6) (q0 := 0) rfl rfl, k_pre hP hD hS hE hA⟩ rfl rfl hl.1 rfl (lv_room (Nat.le_of_ble_eq_true rfl)) dX6_odds_57 ⟨Nat.zero_le _, Nat.zero_le _⟩) hD hS hA (fun H locs hP hD hS => ?_)
              refine lv_aload_n hx hb dX6_odds_60 rfl (lv_at hl 0 rfl) ?_
              refine va_get (ci := 6) (v := .int (gI r57 6)) (C := RX6) (T := TX6) (N := 26) hx hb hts inlX6 hown hE.1 hP 0 rfl rfl 16 (by decide) (hts _ wB558) (fun _ h9 => h9) rfl dX6_odds_61 ?_
              refine lv_iload_n hx hb dX6_odds_64 rfl (lv_at hl 1 rfl) ?_
              refine lv_icmp_ne (tgt := 75) hx hb dX6_odds_65 (by decide) (fun c65 => ?_) (fun c65 => ?_)
              · have hf := o_in c65 hf
                refine lv_aload_n hx hb dX6_odds_75 rfl (lv_at hl 0 rfl) ?_
                refine va_get (ci := 6) (v := .int (gI r57 7)) (C := RX6) (T := TX6) (N := 26) hx hb hts inlX6 hown hE.1 hP 0 rfl rfl 17 (by decide) (hts _ wB560) (fun _ h9 => h9) rfl dX6_odds_76 ?_
                refine lv_iload_n hx hb dX6_odds_79 rfl (lv_at hl 1 rfl) ?_
                refine lv_icmp_ne (tgt := 90) hx hb dX6_odds_80 (by decide) (fun c80 => ?_) (fun c80 => ?_)
                · have hf := o_in c80 hf
                  refine lv_iconst (v := (-1)) hx hb dX6_odds_90 (by decide) ?_
                  refine lv_istore (lv' := [(6, .int (-1)), (0, .ref (q 0)), (1, .int a1), (2, .int a2), (3, .long s46.1), (5, .int s46.2.1)]) hx hb dX6_odds_91 hl (by decide) rfl (fun ls hl => ?_)
                  refine lv_lload_n hx hb dX6_odds_93 rfl (lv_at hl 4 rfl) ?_
                  refine lv_iload hx hb dX6_odds_94 (lv_at hl 0 rfl) ?_
                  refine lv_iconst (v := (-1)) hx hb dX6_odds_96 (by decide) ?_
                  refine lv_icmp_ne (tgt := 105) hx hb dX6_odds_97 (by decide) (fun c97 => absurd c97 (by decide)) (fun c97 => ?_)
                  refine lv_bipush (v := 7) hx hb dX6_odds_100 (by decide) ?_
                  refine lv_goto (tgt := 109) hx hb dX6_odds_102 (by decide) ?_
                  refine lv_iload_n hx hb dX6_odds_109 rfl (lv_at hl 3 rfl) ?_
                  refine lv_icmp_ne (tgt := 123) hx hb dX6_odds_110 (by decide) (fun c110 => ?_) (fun c110 => ?_)
                  · have hf := o_in c110 hf
                    refine lv_lconst (v := 0) hx hb dX6_odds_123 (by decide) ?_
                    refine lv_ladd hx hb dX6_odds_124 ?_
                    refine lv_lstore_n (lv' := [(3, .long (s46.1 + 0)), (6, .int (-1)), (0, .ref (q 0)), (1, .int a1), (2, .int a2), (5, .int s46.2.1)]) hx hb dX6_odds_125 rfl hl (by decide) rfl (fun ls hl => ?_)
                    refine lv_iinc (v := (s46.2.1 + 1)) (lv' := [(5, .int (s46.2.1 + 1)), (3, .long (s46.1 + 0)), (6, .int (-1)), (0, .ref (q 0)), (1, .int a1), (2, .int a2)]) hx hb dX6_odds_126 hl (k := 5) rfl (by rfl) (by decide) rfl (fun ls hl => ?_)
                    refine lv_goto (tgt := 46) hx hb dX6_odds_129 (by decide) ?_
                    obtain rfl := o_ret hf
                    exact ih46 _ _ (lpK_r h46z) _ _ _ hP hD hS (lv_sub hl [3, 4, 5, 1, 0] rfl) K46_0
                  · have hf := o_ip c110 hf
                    refine lv_aload_n hx hb dX6_odds_113 rfl (lv_at hl 1 rfl) ?_
                    refine va_get (ci := 6) (v := .ref (q 11)) (C := RX6) (T := TX6) (N := 26) hx hb hts inlX6 hown hE.1 hP 0 rfl rfl 20 (by decide) (hts _ wB94) (fun _ h9 => h9) rfl dX6_odds_114 ?_
                    refine lv_iload hx hb dX6_odds_117 (lv_at hl 5 rfl) ?_
                    obtain ⟨hg119, hf⟩ := gd_s hf
                    refine va_lald (f := (gA r57 0)) hx hb hE.1 hP 11 1 rfl rfl hg119 dX6_odds_119 ?_
                    refine lv_goto (tgt := 124) hx hb dX6_odds_120 (by decide) ?_
                    refine lv_ladd hx hb dX6_odds_124 ?_
                    refine lv_lstore_n (lv' := [(3, .long (s46.1 + ((gA r57 0) (s46.2.1.toNatClampNeg)))), (6, .int (-1)), (0, .ref (q 0)), (1, .int a1), (2, .int a2), (5, .int s46.2.1)]) hx hb dX6_odds_125 rfl hl (by decide) rfl (fun ls hl => ?_)
                    refine lv_iinc (v := (s46.2.1 + 1)) (lv' := [(5, .int (s46.2.1 + 1)), (3, .long (s46.1 + ((gA r57 0) (s46.2.1.toNatClampNeg)))), (6, .int (-1)), (0, .ref (q 0)), (1, .int a1), (2, .int a2)]) hx hb dX6_odds_126 hl (k := 5) rfl (by rfl) (by decide) rfl (fun ls hl => ?_)
                    refine lv_goto (tgt := 46) hx hb dX6_odds_129 (by decide) ?_
                    obtain rfl := o_ret hf
                    exact ih46 _ _ (lpK_r h46z) _ _ _ hP hD hS (lv_sub hl [3, 4, 5, 1, 0] rfl) K46_0
                · have hf := o_ip c80 hf
                  refine lv_aload_n hx hb dX6_odds_83 rfl (lv_at hl 0 rfl) ?_
                  refine va_get (ci := 6) (v := .int (gI r57 9)) (C := RX6) (T := TX6) (N := 26) hx hb hts inlX6 hown hE.1 hP 0 rfl rfl 19 (by decide) (hts _ wB561) (fun _ h9 => h9) rfl dX6_odds_84 ?_
                  refine lv_goto (tgt := 91) hx hb dX6_odds_87 (by decide) ?_
                  refine lv_istore (lv' := [(6, .int (gI r57 9)), (0, .ref (q 0)), (1, .int a1), (2, .int a2), (3, .long s46.1), (5, .int s46.2.1)]) hx hb dX6_odds_91 hl (by decide) rfl (fun ls hl => ?_)
                  refine lv_lload_n hx hb dX6_odds_93 rfl (lv_at hl 4 rfl) ?_
                  refine lv_iload hx hb dX6_odds_94 (lv_at hl 0 rfl) ?_
                  refine lv_iconst (v := (-1)) hx hb dX6_odds_96 (by decide) ?_
                  refine lv_icmp_ne (tgt := 105) hx hb dX6_odds_97 (by decide) (fun c97 => ?_) (fun c97 => ?_)
                  · have hf := o_in c97 hf
                    refine lv_iload hx hb dX6_odds_105 (lv_at hl 0 rfl) ?_
                    refine lv_iconst (v := 3) hx hb dX6_odds_107 (by decide) ?_
                    refine lv_idiv hx hb dX6_odds_108 (by decide) ?_
                    refine lv_iload_n hx hb dX6_odds_109 rfl (lv_at hl 3 rfl) ?_
                    refine lv_icmp_ne (tgt := 123) hx hb dX6_odds_110 (by decide) (fun c110 => ?_) (fun c110 => ?_)
                    · have hf := o_in c110 hf
                      refine lv_lconst (v := 0) hx hb dX6_odds_123 (by decide) ?_
                      refine lv_ladd hx hb dX6_odds_124 ?_
                      refine lv_lstore_n (lv' := [(3, .long (s46.1 + 0)), (6, .int (gI r57 9)), (0, .ref (q 0)), (1, .int a1), (2, .int a2), (5, .int s46.2.1)]) hx hb dX6_odds_125 rfl hl (by decide) rfl (fun ls hl => ?_)
                      refine lv_iinc (v := (s46.2.1 + 1)) (lv' := [(5, .int (s46.2.1 + 1)), (3, .long (s46.1 + 0)), (6, .int (gI r57 9)), (0, .ref (q 0)), (1, .int a1), (2, .int a2)]) hx hb dX6_odds_126 hl (k := 5) rfl (by rfl) (by decide) rfl (fun ls hl => ?_)
                      refine lv_goto (tgt := 46) hx hb dX6_odds_129 (by decide) ?_
                      obtain rfl := o_ret hf
                      exact ih46 _ _ (lpK_r h46z) _ _ _ hP hD hS (lv_sub hl [3, 4, 5, 1, 0] rfl) K46_0
                    · have hf := o_ip c110 hf
                      refine lv_aload_n hx hb dX6_odds_113 rfl (lv_at hl 1 rfl) ?_
                      refine va_get (ci := 6) (v := .ref (q 11)) (C := RX6) (T := TX6) (N := 26) hx hb hts inlX6 hown hE.1 hP 0 rfl rfl 20 (by decide) (hts _ wB94) (fun _ h9 => h9) rfl dX6_odds_114 ?_
                      refine lv_iload hx hb dX6_odds_117 (lv_at hl 5 rfl) ?_
                      obtain ⟨hg119, hf⟩ := gd_s hf
                      refine va_lald (f := (gA r57 0)) hx hb hE.1 hP 11 1 rfl rfl hg119 dX6_odds_119 ?_
                      refine lv_goto (tgt := 124) hx hb dX6_odds_120 (by decide) ?_
                      refine lv_ladd hx hb dX6_odds_124 ?_
                      refine lv_lstore_n (lv' := [(3, .long (s46.1 + ((gA r57 0) (s46.2.1.toNatClampNeg)))), (6, .int (gI r57 9)), (0, .ref (q 0)), (1, .int a1), (2, .int a2), (5, .int s46.2.1)]) hx hb dX6_odds_125 rfl hl (by decide) rfl (fun ls hl => ?_)
                      refine lv_iinc (v := (s46.2.1 + 1)) (lv' := [(5, .int (s46.2.1 + 1)), (3, .long (s46.1 + ((gA r57 0) (s46.2.1.toNatClampNeg)))), (6, .int (gI r57 9)), (0, .ref (q 0)), (1, .int a1), (2, .int a2)]) hx hb dX6_odds_126 hl (k := 5) rfl (by rfl) (by decide) rfl (fun ls hl => ?_)
                      refine lv_goto (tgt := 46) hx hb dX6_odds_129 (by decide) ?_
                      obtain rfl := o_ret hf
                      exact ih46 _ _ (lpK_r h46z) _ _ _ hP hD hS (lv_sub hl [3, 4, 5, 1, 0] rfl) K46_0
                  · have hf := o_ip c97 hf
                    refine lv_bipush (v := 7) hx hb dX6_odds_100 (by decide) ?_
                    refine lv_goto (tgt := 109) hx hb dX6_odds_102 (by decide) ?_
                    refine lv_iload_n hx hb dX6_odds_109 rfl (lv_at hl 3 rfl) ?_
                    refine lv_icmp_ne (tgt := 123) hx hb dX6_odds_110 (by decide) (fun c110 => ?_) (fun c110 => ?_)
                    · have hf := o_in c110 hf
                      refine lv_lconst (v := 0) hx hb dX6_odds_123 (by decide) ?_
                      refine lv_ladd hx hb dX6_odds_124 ?_
                      refine lv_lstore_n (lv' := [(3, .long (s46.1 + 0)), (6, .int (gI r57 9)), (0, .ref (q 0)), (1, .int a1), (2, .int a2), (5, .int s46.2.1)]) hx hb dX6_odds_125 rfl hl (by decide) rfl (fun ls hl => ?_)
                      refine lv_iinc (v := (s46.2.1 + 1)) (lv' := [(5, .int (s46.2.1 + 1)), (3, .long (s46.1 + 0)), (6, .int (gI r57 9)), (0, .ref (q 0)), (1, .int a1), (2, .int a2)]) hx hb dX6_odds_126 hl (k := 5) rfl (by rfl) (by decide) rfl (fun ls hl => ?_)
                      refine lv_goto (tgt := 46) hx hb dX6_odds_129 (by decide) ?_
                      obtain rfl := o_ret hf
                      exact ih46 _ _ (lpK_r h46z) _ _ _ hP hD hS (lv_sub hl [3, 4, 5, 1, 0] rfl) K46_0
                    · have hf := o_ip c110 hf
                      refine lv_aload_n hx hb dX6_odds_113 rfl (lv_at hl 1 rfl) ?_
                      refine va_get (ci := 6) (v := .ref (q 11)) (C := RX6) (T := TX6) (N := 26) hx hb hts inlX6 hown hE.1 hP 0 rfl rfl 20 (by decide) (hts _ wB94) (fun _ h9 => h9) rfl dX6_odds_114 ?_
                      refine lv_iload hx hb dX6_odds_117 (lv_at hl 5 rfl) ?_
                      obtain ⟨hg119, hf⟩ := gd_s hf
                      refine va_lald (f := (gA r57 0)) hx hb hE.1 hP 11 1 rfl rfl hg119 dX6_odds_119 ?_
                      refine lv_goto (tgt := 124) hx hb dX6_odds_120 (by decide) ?_
                      refine lv_ladd hx hb dX6_odds_124 ?_
                      refine lv_lstore_n (lv' := [(3, .long (s46.1 + ((gA r57 0) (s46.2.1.toNatClampNeg)))), (6, .int (gI r57 9)), (0, .ref (q 0)), (1, .int a1), (2, .int a2), (5, .int s46.2.1)]) hx hb dX6_odds_125 rfl hl (by decide) rfl (fun ls hl => ?_)
                      refine lv_iinc (v := (s46.2.1 + 1)) (lv' := [(5, .int (s46.2.1 + 1)), (3, .long (s46.1 + ((gA r57 0) (s46.2.1.toNatClampNeg)))), (6, .int (gI r57 9)), (0, .ref (q 0)), (1, .int a1), (2, .int a2)]) hx hb dX6_odds_126 hl (k := 5) rfl (by rfl) (by decide) rfl (fun ls hl => ?_)
                      refine lv_goto (tgt := 46) hx hb dX6_odds_129 (by decide) ?_
                      obtain rfl := o_ret hf
                      exact ih46 _ _ (lpK_r h46z) _ _ _ hP hD hS (lv_sub hl [3, 4, 5, 1, 0] rfl) K46_0
              · have hf := o_ip c65 hf
                refine lv_aload_n hx hb dX6_odds_68 rfl (lv_at hl 0 rfl) ?_
                refine va_get (ci := 6) (v := .int (gI r57 8)) (C := RX6) (T := TX6) (N := 26) hx hb hts inlX6 hown hE.1 hP 0 rfl rfl 18 (by decide) (hts _ wB559) (fun _ h9 => h9) rfl dX6_odds_69 ?_
                refine lv_goto (tgt := 91) hx hb dX6_odds_72 (by decide) ?_
                refine lv_istore (lv' := [(6, .int (gI r57 8)), (0, .ref (q 0)), (1, .int a1), (2, .int a2), (3, .long s46.1), (5, .int s46.2.1)]) hx hb dX6_odds_91 hl (by decide) rfl (fun ls hl => ?_)
                refine lv_lload_n hx hb dX6_odds_93 rfl (lv_at hl 4 rfl) ?_
                refine lv_iload hx hb dX6_odds_94 (lv_at hl 0 rfl) ?_
                refine lv_iconst (v := (-1)) hx hb dX6_odds_96 (by decide) ?_
                refine lv_icmp_ne (tgt := 105) hx hb dX6_odds_97 (by decide) (fun c97 => ?_) (fun c97 => ?_)
                · have hf := o_in c97 hf
                  refine lv_iload hx hb dX6_odds_105 (lv_at hl 0 rfl) ?_
                  refine lv_iconst (v := 3) hx hb dX6_odds_107 (by decide) ?_
                  refine lv_idiv hx hb dX6_odds_108 (by decide) ?_
                  refine lv_iload_n hx hb dX6_odds_109 rfl (lv_at hl 3 rfl) ?_
                  refine lv_icmp_ne (tgt := 123) hx hb dX6_odds_110 (by decide) (fun c110 => ?_) (fun c110 => ?_)
                  · have hf := o_in c110 hf
                    refine lv_lconst (v := 0) hx hb dX6_odds_123 (by decide) ?_
                    refine lv_ladd hx hb dX6_odds_124 ?_
                    refine lv_lstore_n (lv' := [(3, .long (s46.1 + 0)), (6, .int (gI r57 8)), (0, .ref (q 0)), (1, .int a1), (2, .int a2), (5, .int s46.2.1)]) hx hb dX6_odds_125 rfl hl (by decide) rfl (fun ls hl => ?_)
                    refine lv_iinc (v := (s46.2.1 + 1)) (lv' := [(5, .int (s46.2.1 + 1)), (3, .long (s46.1 + 0)), (6, .int (gI r57 8)), (0, .ref (q 0)), (1, .int a1), (2, .int a2)]) hx hb dX6_odds_126 hl (k := 5) rfl (by rfl) (by decide) rfl (fun ls hl => ?_)
                    refine lv_goto (tgt := 46) hx hb dX6_odds_129 (by decide) ?_
                    obtain rfl := o_ret hf
                    exact ih46 _ _ (lpK_r h46z) _ _ _ hP hD hS (lv_sub hl [3, 4, 5, 1, 0] rfl) K46_0
                  · have hf := o_ip c110 hf
                    refine lv_aload_n hx hb dX6_odds_113 rfl (lv_at hl 1 rfl) ?_
                    refine va_get (ci := 6) (v := .ref (q 11)) (C := RX6) (T := TX6) (N := 26) hx hb hts inlX6 hown hE.1 hP 0 rfl rfl 20 (by decide) (hts _ wB94) (fun _ h9 => h9) rfl dX6_odds_114 ?_
                    refine lv_iload hx hb dX6_odds_117 (lv_at hl 5 rfl) ?_
                    obtain ⟨hg119, hf⟩ := gd_s hf
                    refine va_lald (f := (gA r57 0)) hx hb hE.1 hP 11 1 rfl rfl hg119 dX6_odds_119 ?_
                    refine lv_goto (tgt := 124) hx hb dX6_odds_120 (by decide) ?_
                    refine lv_ladd hx hb dX6_odds_124 ?_
                    refine lv_lstore_n (lv' := [(3, .long (s46.1 + ((gA r57 0) (s46.2.1.toNatClampNeg)))), (6, .int (gI r57 8)), (0, .ref (q 0)), (1, .int a1), (2, .int a2), (5, .int s46.2.1)]) hx hb dX6_odds_125 rfl hl (by decide) rfl (fun ls hl => ?_)
                    refine lv_iinc (v := (s46.2.1 + 1)) (lv' := [(5, .int (s46.2.1 + 1)), (3, .long (s46.1 + ((gA r57 0) (s46.2.1.toNatClampNeg)))), (6, .int (gI r57 8)), (0, .ref (q 0)), (1, .int a1), (2, .int a2)]) hx hb dX6_odds_126 hl (k := 5) rfl (by rfl) (by decide) rfl (fun ls hl => ?_)
                    refine lv_goto (tgt := 46) hx hb dX6_odds_129 (by decide) ?_
                    obtain rfl := o_ret hf
                    exact ih46 _ _ (lpK_r h46z) _ _ _ hP hD hS (lv_sub hl [3, 4, 5, 1, 0] rfl) K46_0
                · have hf := o_ip c97 hf
                  refine lv_bipush (v := 7) hx hb dX6_odds_100 (by decide) ?_
                  refine lv_goto (tgt := 109) hx hb dX6_odds_102 (by decide) ?_
                  refine lv_iload_n hx hb dX6_odds_109 rfl (lv_at hl 3 rfl) ?_
                  refine lv_icmp_ne (tgt := 123) hx hb dX6_odds_110 (by decide) (fun c110 => ?_) (fun c110 => ?_)
                  · have hf := o_in c110 hf
                    refine lv_lconst (v := 0) hx hb dX6_odds_123 (by decide) ?_
                    refine lv_ladd hx hb dX6_odds_124 ?_
                    refine lv_lstore_n (lv' := [(3, .long (s46.1 + 0)), (6, .int (gI r57 8)), (0, .ref (q 0)), (1, .int a1), (2, .int a2), (5, .int s46.2.1)]) hx hb dX6_odds_125 rfl hl (by decide) rfl (fun ls hl => ?_)
                    refine lv_iinc (v := (s46.2.1 + 1)) (lv' := [(5, .int (s46.2.1 + 1)), (3, .long (s46.1 + 0)), (6, .int (gI r57 8)), (0, .ref (q 0)), (1, .int a1), (2, .int a2)]) hx hb dX6_odds_126 hl (k := 5) rfl (by rfl) (by decide) rfl (fun ls hl => ?_)
                    refine lv_goto (tgt := 46) hx hb dX6_odds_129 (by decide) ?_
                    obtain rfl := o_ret hf
                    exact ih46 _ _ (lpK_r h46z) _ _ _ hP hD hS (lv_sub hl [3, 4, 5, 1, 0] rfl) K46_0
                  · have hf := o_ip c110 hf
                    refine lv_aload_n hx hb dX6_odds_113 rfl (lv_at hl 1 rfl) ?_
                    refine va_get (ci := 6) (v := .ref (q 11)) (C := RX6) (T := TX6) (N := 26) hx hb hts inlX6 hown hE.1 hP 0 rfl rfl 20 (by decide) (hts _ wB94) (fun _ h9 => h9) rfl dX6_odds_114 ?_
                    refine lv_iload hx hb dX6_odds_117 (lv_at hl 5 rfl) ?_
                    obtain ⟨hg119, hf⟩ := gd_s hf
                    refine va_lald (f := (gA r57 0)) hx hb hE.1 hP 11 1 rfl rfl hg119 dX6_odds_119 ?_
                    refine lv_goto (tgt := 124) hx hb dX6_odds_120 (by decide) ?_
                    refine lv_ladd hx hb dX6_odds_124 ?_
                    refine lv_lstore_n (lv' := [(3, .long (s46.1 + ((gA r57 0) (s46.2.1.toNatClampNeg)))), (6, .int (gI r57 8)), (0, .ref (q 0)), (1, .int a1), (2, .int a2), (5, .int s46.2.1)]) hx hb dX6_odds_125 rfl hl (by decide) rfl (fun ls hl => ?_)
                    refine lv_iinc (v := (s46.2.1 + 1)) (lv' := [(5, .int (s46.2.1 + 1)), (3, .long (s46.1 + ((gA r57 0) (s46.2.1.toNatClampNeg)))), (6, .int (gI r57 8)), (0, .ref (q 0)), (1, .int a1), (2, .int a2)]) hx hb dX6_odds_126 hl (k := 5) rfl (by rfl) (by decide) rfl (fun ls hl => ?_)
                    refine lv_goto (tgt := 46) hx hb dX6_odds_129 (by decide) ?_
                    obtain rfl := o_ret hf
                    exact ih46 _ _ (lpK_r h46z) _ _ _ hP hD hS (lv_sub hl [3, 4, 5, 1, 0] rfl) K46_0
        obtain ⟨e46, h46q, hf⟩ := o_bs hf
        obtain ⟨n46v, h46q⟩ := lpF_ex h46q
        refine L46 n46v _ e46 h46q _ _ _ hP hD hS (lv_sub hl [2, 3, 4, 1, 0] rfl) ?_
        intro H locs ls hP hD hS hl
        refine lv_aload_n hx hb dX6_odds_132 rfl (lv_at hl 0 rfl) ?_
        refine lv_lload_n hx hb dX6_odds_133 rfl (lv_at hl 1 rfl) ?_
        refine lv_aload_n hx hb dX6_odds_134 rfl (lv_at hl 0 rfl) ?_
        refine va_get (ci := 6) (v := .long (gL e46.2 0)) (C := RX6) (T := TX6) (N := 26) hx hb hts inlX6 hown hE.1 hP 0 rfl rfl 21 (by decide) (hts _ wB562) (fun _ h9 => h9) rfl dX6_odds_135 ?_
        obtain ⟨r138, h138r, hf⟩ := o_bs hf
        refine k_goi (va_runV (As := [.long e46.1, .long (gL e46.2 0)]) (rest := []) ⟨hx, hb, hml, hown, hts⟩ (zX6_tells l D cy sa q rest H.size e46.2 e46.1 (gL e46.2 0) r138 h138r) (cwV 2 hts (gB_V wB580 wB581 wB582 wB5 wB583) rfl rfl rfl (by decide +kernel) ⟨Nat.le_of_ble_eq_true rfl, Nat.le_of_ble_eq_true rfl⟩) ⟨kP.blind, k_recv hE hP (ci := 6) (q0 := 0) rfl rfl, k_pre hP hD hS hE hA⟩ rfl rfl hl.1 rfl (lv_room (Nat.le_of_ble_eq_true rfl)) dX6_odds_138 ⟨Nat.zero_le _, Nat.zero_le _⟩) hD hS hA (fun H locs hP hD hS => ?_)
        obtain rfl := o_ret hf
        exact k_iret hx hb hr hP hD hS (Nat.zero_le _) (Nat.zero_le _) hlocks dX6_odds_141
      · have hf := o_ip c33 hf
        refine lv_aload_n hx hb dX6_odds_36 rfl (lv_at hl 0 rfl) ?_
        obtain ⟨r37, h37r, hf⟩ := o_bs hf
        refine k_goi (va_runV (As := []) (rest := []) ⟨hx, hb, hml, hown, hts⟩ (zX6_no l D cy sa q rest H.size r30.2  r37 h37r) (cwV 0 hts (gB_V wB328 wB329 wB330 wB5 wB331) rfl rfl rfl (by decide +kernel) ⟨Nat.le_of_ble_eq_true rfl, Nat.le_of_ble_eq_true rfl⟩) ⟨kP.blind, k_recv hE hP (ci := 6) (q0 := 0) rfl rfl, k_pre hP hD hS hE hA⟩ rfl rfl hl.1 rfl (lv_room (Nat.le_of_ble_eq_true rfl)) dX6_odds_37 ⟨Nat.zero_le _, Nat.zero_le _⟩) hD hS hA (fun H locs hP hD hS => ?_)
        obtain rfl := o_ret hf
        exact k_iret hx hb hr hP hD hS (Nat.zero_le _) (Nat.zero_le _) hlocks dX6_odds_40
    · have hf := o_ip c21 hf
      refine lv_aload_n hx hb dX6_odds_24 rfl (lv_at hl 0 rfl) ?_
      obtain ⟨r25, h25r, hf⟩ := o_bs hf
      refine k_goi (va_runV (As := []) (rest := []) ⟨hx, hb, hml, hown, hts⟩ (zX6_bad l D cy sa q rest H.size u  r25 h25r) (cwV 0 hts (gB_V wB144 wB145 wB146 wB5 wB147) rfl rfl rfl (by decide +kernel) ⟨Nat.le_of_ble_eq_true rfl, Nat.le_of_ble_eq_true rfl⟩) ⟨kP.blind, k_recv hE hP (ci := 6) (q0 := 0) rfl rfl, k_pre hP hD hS hE hA⟩ rfl rfl hl.1 rfl (lv_room (Nat.le_of_ble_eq_true rfl)) dX6_odds_25 ⟨Nat.zero_le _, Nat.zero_le _⟩) hD hS hA (fun H locs hP hD hS => ?_)
      obtain rfl := o_ret hf
      exact k_iret hx hb hr hP hD hS (Nat.zero_le _) (Nat.zero_le _) hlocks dX6_odds_28
noncomputable def mX6_part (u : KS) (a1 : Int32) (a2 : Int32) (a3 : Int32) : Option (Int32 × KS) :=
  (mX6_in (a1.toInt64) 1 99).bind fun r6 =>
  if r6 = 0 then
  ((mX6_bad u).bind fun r37 =>
  some (r37.1, r37.2))
  else
  ((mX6_in (a2.toInt64) 1 99).bind fun r18 =>
  if r18 = 0 then
  ((mX6_bad u).bind fun r37 =>
  some (r37.1, r37.2))
  else
  ((mX6_in (a3.toInt64) 0 10).bind fun r30 =>
  if r30 = 0 then
  ((mX6_bad u).bind fun r37 =>
  some (r37.1, r37.2))
  else
  (if ((gR u 0) ((2 : Int32).toNatClampNeg)) = 6 then
  ((mX6_full u).bind fun r53 =>
  some (r53.1, r53.2))
  else
  (gd (inb (60 + (3 * ((gR u 0) ((2 : Int32).toNatClampNeg)))) 200) (gd (inb ((60 + (3 * ((gR u 0) ((2 : Int32).toNatClampNeg)))) + 1) 200) (gd (inb ((60 + (3 * ((gR u 0) ((2 : Int32).toNatClampNeg)))) + 2) 200) (some ((((upd (upd (upd (upd (gR u 0) ((60 + (3 * ((gR u 0) ((2 : Int32).toNatClampNeg)))).toNatClampNeg) a1) (((60 + (3 * ((gR u 0) ((2 : Int32).toNatClampNeg)))) + 1).toNatClampNeg) a2) (((60 + (3 * ((gR u 0) ((2 : Int32).toNatClampNeg)))) + 2).toNatClampNeg) a3) ((2 : Int32).toNatClampNeg) (((upd (upd (upd (gR u 0) ((60 + (3 * ((gR u 0) ((2 : Int32).toNatClampNeg)))).toNatClampNeg) a1) (((60 + (3 * ((gR u 0) ((2 : Int32).toNatClampNeg)))) + 1).toNatClampNeg) a2) (((60 + (3 * ((gR u 0) ((2 : Int32).toNatClampNeg)))) + 2).toNatClampNeg) a3) ((2 : Int32).toNatClampNeg)) + 1)) ((2 : Int32).toNatClampNeg)) - 1), (sR u 0 (upd (upd (upd (upd (gR u 0) ((60 + (3 * ((gR u 0) ((2 : Int32).toNatClampNeg)))).toNatClampNeg) a1) (((60 + (3 * ((gR u 0) ((2 : Int32).toNatClampNeg)))) + 1).toNatClampNeg) a2) (((60 + (3 * ((gR u 0) ((2 : Int32).toNatClampNeg)))) + 2).toNatClampNeg) a3) ((2 : Int32).toNatClampNeg) (((upd (upd (upd (gR u 0) ((60 + (3 * ((gR u 0) ((2 : Int32).toNatClampNeg)))).toNatClampNeg) a1) (((60 + (3 * ((gR u 0) ((2 : Int32).toNatClampNeg)))) + 1).toNatClampNeg) a2) (((60 + (3 * ((gR u 0) ((2 : Int32).toNatClampNeg)))) + 2).toNatClampNeg) a3) ((2 : Int32).toNatClampNeg)) + 1)))))))))))
abbrev rmX6_part : Room := { frames := 2, cells := 0, slots := 0, locals := 42 }
set_option maxRecDepth 100000 in
set_option maxHeartbeats 4000000 in
theorem zX6_part (l : Launch) (D : va_G) (cy : Nat → ClassId) (sa : Nat → Nat) (q : Nat → Nat) (rest : va_W) (sz : Nat) (u : KS) (a1 : Int32) (a2 : Int32) (a3 : Int32) (res : Int32 × KS) (hf : mX6_part u a1 a2 a3 = some res) : kMi l yX6_part (wsK yX6_part cX6_part 5 (some .int)) rmX6_part D cy sa (WM q cy u ++ rest) sz [.ref (q 0), .int a1, .int a2, .int a3] res.1 (WM q cy res.2 ++ rest) 0 0 := by
  refine kM_of (Qc := fun A => kQi D A res.1 (WM q cy res.2 ++ rest)) (cc := cX6_part) (maxL := 5) (ret := (some .int)) (by decide) (Nat.le_of_ble_eq_true rfl) ?_
  intro p e s m below meth c A hx hb hml hr hts hown hlocks hin hA hP hD hS hE hsz ls hl
  have hown : s.vm.findClass RX6 = some m.cls := hown
  obtain ⟨H, hH0⟩ : ∃ H, H = s.heap := ⟨_, rfl⟩
  obtain ⟨locs, hlocs0⟩ : ∃ locs : List Loc, locs = [] := ⟨_, rfl⟩
  have hP : va_P D vwCl (WM q cy u ++ rest) H := by rw [hH0]; exact hP
  have hS : va_S A s.heap H locs := by rw [hH0, hlocs0]; exact hS
  have hl : lv_has ls 5 [(0, .ref (q 0)), (1, .int a1), (2, .int a2), (3, .int a3)] := hl
  suffices hgoal : W p l e rmX6_part s m ([.ref (q 0), .int a1, .int a2, .int a3] : List Value).toArray below meth c H locs 0 0 (MQ below (kQi D A res.1 (WM q cy res.2 ++ rest)) ([.ref (q 0), .int a1, .int a2, .int a3] : List Value).toArray s 0 0 A) (F0 m 0 ls []) by rw [hH0, hlocs0] at hgoal; exact hgoal
  clear hH0 hlocs0
  unfold mX6_part at hf
  refine lv_iload_n hx hb dX6_part_0 rfl (lv_at hl 1 rfl) ?_
  refine lv_i2l (v := (a1.toInt64)) hx hb dX6_part_1 rfl ?_
  refine lv_lconst (v := 1) hx hb dX6_part_2 (by decide) ?_
  refine lv_ldc2 (v := 99) hx hb hown (hts _ wB347) dX6_part_3 ?_
  obtain ⟨r6, h6r, hf⟩ := o_bs hf
  refine k_goi (va_runS (As := [.long (a1.toInt64), .long 1, .long 99]) (rest := []) ⟨hx, hb, hml, hown, hts⟩ (zX6_in l D cy sa (WM q cy u ++ rest) H.size (a1.toInt64) 1 99  r6  h6r) (va_cwS 3 hts (gB_S wB141 wB142 wB5 wB143) rfl rfl rfl (by decide +kernel) ⟨Nat.le_of_ble_eq_true rfl, Nat.le_of_ble_eq_true rfl⟩) ⟨kP.blind, k_pre hP hD hS hE hA⟩ rfl rfl hl.1 rfl (lv_room (Nat.le_of_ble_eq_true rfl)) dX6_part_6 ⟨Nat.zero_le _, Nat.zero_le _⟩) hD hS hA (fun H locs hP hD hS => ?_)
  refine lv_if_eq (tgt := 36) hx hb dX6_part_9 (by decide) (fun c9 => ?_) (fun c9 => ?_)
  · have hf := o_ip c9 hf
    refine lv_aload_n hx hb dX6_part_36 rfl (lv_at hl 0 rfl) ?_
    obtain ⟨r37, h37r, hf⟩ := o_bs hf
    refine k_goi (va_runV (As := []) (rest := []) ⟨hx, hb, hml, hown, hts⟩ (zX6_bad l D cy sa q rest H.size u  r37 h37r) (cwV 0 hts (gB_V wB144 wB145 wB146 wB5 wB147) rfl rfl rfl (by decide +kernel) ⟨Nat.le_of_ble_eq_true rfl, Nat.le_of_ble_eq_true rfl⟩) ⟨kP.blind, k_recv hE hP (ci := 6) (q0 := 0) rfl rfl, k_pre hP hD hS hE hA⟩ rfl rfl hl.1 rfl (lv_room (Nat.le_of_ble_eq_true rfl)) dX6_part_37 ⟨Nat.zero_le _, Nat.zero_le _⟩) hD hS hA (fun H locs hP hD hS => ?_)
    obtain rfl := o_ret hf
    exact k_iret hx hb hr hP hD hS (Nat.zero_le _) (Nat.zero_le _) hlocks dX6_part_40
  · have hf := o_in c9 hf
    refine lv_iload_n hx hb dX6_part_12 rfl (lv_at hl 2 rfl) ?_
    refine lv_i2l (v := (a2.toInt64)) hx hb dX6_part_13 rfl ?_
    refine lv_lconst (v := 1) hx hb dX6_part_14 (by decide) ?_
    refine lv_ldc2 (v := 99) hx hb hown (hts _ wB347) dX6_part_15 ?_
    obtain ⟨r18, h18r, hf⟩ := o_bs hf
    refine k_goi (va_runS (As := [.long (a2.toInt64), .long 1, .long 99]) (rest := []) ⟨hx, hb, hml, hown, hts⟩ (zX6_in l D cy sa (WM q cy u ++ rest) H.size (a2.toInt64) 1 99  r18  h18r) (va_cwS 3 hts (gB_S wB141 wB142 wB5 wB143) rfl rfl rfl (by decide +kernel) ⟨Nat.le_of_ble_eq_true rfl, Nat.le_of_ble_eq_true rfl⟩) ⟨kP.blind, k_pre hP hD hS hE hA⟩ rfl rfl hl.1 rfl (lv_room (Nat.le_of_ble_eq_true rfl)) dX6_part_18 ⟨Nat.zero_le _, Nat.zero_le _⟩) hD hS hA (fun H locs hP hD hS => ?_)
    refine lv_if_eq (tgt := 36) hx hb dX6_part_21 (by decide) (fun c21 => ?_) (fun c21 => ?_)
    · have hf := o_ip c21 hf
      refine lv_aload_n hx hb dX6_part_36 rfl (lv_at hl 0 rfl) ?_
      obtain ⟨r37, h37r, hf⟩ := o_bs hf
      refine k_goi (va_runV (As := []) (rest := []) ⟨hx, hb, hml, hown, hts⟩ (zX6_bad l D cy sa q rest H.size u  r37 h37r) (cwV 0 hts (gB_V wB144 wB145 wB146 wB5 wB147) rfl rfl rfl (by decide +kernel) ⟨Nat.le_of_ble_eq_true rfl, Nat.le_of_ble_eq_true rfl⟩) ⟨kP.blind, k_recv hE hP (ci := 6) (q0 := 0) rfl rfl, k_pre hP hD hS hE hA⟩ rfl rfl hl.1 rfl (lv_room (Nat.le_of_ble_eq_true rfl)) dX6_part_37 ⟨Nat.zero_le _, Nat.zero_le _⟩) hD hS hA (fun H locs hP hD hS => ?_)
      obtain rfl := o_ret hf
      exact k_iret hx hb hr hP hD hS (Nat.zero_le _) (Nat.zero_le _) hlocks dX6_part_40
    · have hf := o_in c21 hf
      refine lv_iload_n hx hb dX6_part_24 rfl (lv_at hl 3 rfl) ?_
      refine lv_i2l (v := (a3.toInt64)) hx hb dX6_part_25 rfl ?_
      refine lv_lconst (v := 0) hx hb dX6_part_26 (by decide) ?_
      refine lv_ldc2 (v := 10) hx hb hown (hts _ wB766) dX6_part_27 ?_
      obtain ⟨r30, h30r, hf⟩ := o_bs hf
      refine k_goi (va_runS (As := [.long (a3.toInt64), .long 0, .long 10]) (rest := []) ⟨hx, hb, hml, hown, hts⟩ (zX6_in l D cy sa (WM q cy u ++ rest) H.size (a3.toInt64) 0 10  r30  h30r) (va_cwS 3 hts (gB_S wB141 wB142 wB5 wB143) rfl rfl rfl (by decide +kernel) ⟨Nat.le_of_ble_eq_true rfl, Nat.le_of_ble_eq_true rfl⟩) ⟨kP.blind, k_pre hP hD hS hE hA⟩ rfl rfl hl.1 rfl (lv_room (Nat.le_of_ble_eq_true rfl)) dX6_part_30 ⟨Nat.zero_le _, Nat.zero_le _⟩) hD hS hA (fun H locs hP hD hS => ?_)
      refine lv_if_ne (tgt := 41) hx hb dX6_part_33 (by decide) (fun c33 => ?_) (fun c33 => ?_)
      · have hf := o_in c33 hf
        refine lv_aload_n hx hb dX6_part_41 rfl (lv_at hl 0 rfl) ?_
        refine va_get (ci := 6) (v := .ref (q 1)) (C := RX6) (T := TX6) (N := 26) hx hb hts inlX6 hown hE.1 hP 0 rfl rfl 0 (by decide) (hts _ wB83) (fun _ h9 => h9) rfl dX6_part_42 ?_
        refine lv_iconst (v := 2) hx hb dX6_part_45 (by decide) ?_
        refine va_iald (f := (gR u 0)) hx hb hE.1 hP 1 0 rfl rfl (k_in (by decide)) dX6_part_46 ?_
        refine lv_bipush (v := 6) hx hb dX6_part_47 (by decide) ?_
        refine lv_icmp_ne (tgt := 57) hx hb dX6_part_49 (by decide) (fun c49 => ?_) (fun c49 => ?_)
        · have hf := o_in c49 hf
          refine lv_bipush (v := 60) hx hb dX6_part_57 (by decide) ?_
          refine lv_iconst (v := 3) hx hb dX6_part_59 (by decide) ?_
          refine lv_aload_n hx hb dX6_part_60 rfl (lv_at hl 0 rfl) ?_
          refine va_get (ci := 6) (v := .ref (q 1)) (C := RX6) (T := TX6) (N := 26) hx hb hts inlX6 hown hE.1 hP 0 rfl rfl 0 (by decide) (hts _ wB83) (fun _ h9 => h9) rfl dX6_part_61 ?_
          refine lv_iconst (v := 2) hx hb dX6_part_64 (by decide) ?_
          refine va_iald (f := (gR u 0)) hx hb hE.1 hP 1 0 rfl rfl (k_in (by decide)) dX6_part_65 ?_
          refine lv_imul hx hb dX6_part_66 ?_
          refine lv_iadd hx hb dX6_part_67 ?_
          refine lv_istore (lv' := [(4, .int (60 + (3 * ((gR u 0) ((2 : Int32).toNatClampNeg))))), (0, .ref (q 0)), (1, .int a1), (2, .int a2), (3, .int a3)]) hx hb dX6_part_68 hl (by decide) rfl (fun ls hl => ?_)
          refine lv_aload_n hx hb dX6_part_70 rfl (lv_at hl 1 rfl) ?_
          refine va_get (ci := 6) (v := .ref (q 1)) (C := RX6) (T := TX6) (N := 26) hx hb hts inlX6 hown hE.1 hP 0 rfl rfl 0 (by decide) (hts _ wB83) (fun _ h9 => h9) rfl dX6_part_71 ?_
          refine lv_iload hx hb dX6_part_74 (lv_at hl 0 rfl) ?_
          refine lv_iload_n hx hb dX6_part_76 rfl (lv_at hl 2 rfl) ?_
          obtain ⟨hg77, hf⟩ := gd_s hf
          refine va_iast (f := (gR u 0)) hx hb hE.1 hP hD hS 1 0 rfl rfl hg77 dX6_part_77 (fun H locs hP hD hS => ?_)
          have hP : va_P D vwCl (WM q cy (sR u 0 (upd (gR u 0) ((60 + (3 * ((gR u 0) ((2 : Int32).toNatClampNeg)))).toNatClampNeg) a1)) ++ rest) H := hP
          have hD : va_D A (WM q cy (sR u 0 (upd (gR u 0) ((60 + (3 * ((gR u 0) ((2 : Int32).toNatClampNeg)))).toNatClampNeg) a1)) ++ rest) := hD
          refine lv_aload_n hx hb dX6_part_78 rfl (lv_at hl 1 rfl) ?_
          refine va_get (ci := 6) (v := .ref (q 1)) (C := RX6) (T := TX6) (N := 26) hx hb hts inlX6 hown hE.1 hP 0 rfl rfl 0 (by decide) (hts _ wB83) (fun _ h9 => h9) rfl dX6_part_79 ?_
          refine lv_iload hx hb dX6_part_82 (lv_at hl 0 rfl) ?_
          refine lv_iconst (v := 1) hx hb dX6_part_84 (by decide) ?_
          refine lv_iadd hx hb dX6_part_85 ?_
          refine lv_iload_n hx hb dX6_part_86 rfl (lv_at hl 3 rfl) ?_
          obtain ⟨hg87, hf⟩ := gd_s hf
          refine va_iast (f := (upd (gR u 0) ((60 + (3 * ((gR u 0) ((2 : Int32).toNatClampNeg)))).toNatClampNeg) a1)) hx hb hE.1 hP hD hS 1 0 rfl rfl hg87 dX6_part_87 (fun H locs hP hD hS => ?_)
          have hQ : ∀ (xb : KS) (x0 : (Nat → Int32)) (xn : (Nat → Int32)), (WM q cy (sR xb 0 x0) ++ rest).set 1 (q 1, .inl (cy 0, 200, .inl xn)) = WM q cy (sR xb 0 xn) ++ rest := fun _ _ _ => rfl
          have hP : va_P D vwCl (WM q cy (sR u 0 (upd (upd (gR u 0) ((60 + (3 * ((gR u 0) ((2 : Int32).toNatClampNeg)))).toNatClampNeg) a1) (((60 + (3 * ((gR u 0) ((2 : Int32).toNatClampNeg)))) + 1).toNatClampNeg) a2)) ++ rest) H := k_wP (hQ u (upd (gR u 0) ((60 + (3 * ((gR u 0) ((2 : Int32).toNatClampNeg)))).toNatClampNeg) a1) (upd (upd (gR u 0) ((60 + (3 * ((gR u 0) ((2 : Int32).toNatClampNeg)))).toNatClampNeg) a1) (((60 + (3 * ((gR u 0) ((2 : Int32).toNatClampNeg)))) + 1).toNatClampNeg) a2)) hP
          have hD : va_D A (WM q cy (sR u 0 (upd (upd (gR u 0) ((60 + (3 * ((gR u 0) ((2 : Int32).toNatClampNeg)))).toNatClampNeg) a1) (((60 + (3 * ((gR u 0) ((2 : Int32).toNatClampNeg)))) + 1).toNatClampNeg) a2)) ++ rest) := k_wD (hQ u (upd (gR u 0) ((60 + (3 * ((gR u 0) ((2 : Int32).toNatClampNeg)))).toNatClampNeg) a1) (upd (upd (gR u 0) ((60 + (3 * ((gR u 0) ((2 : Int32).toNatClampNeg)))).toNatClampNeg) a1) (((60 + (3 * ((gR u 0) ((2 : Int32).toNatClampNeg)))) + 1).toNatClampNeg) a2)) hD
          clear hQ
          refine lv_aload_n hx hb dX6_part_88 rfl (lv_at hl 1 rfl) ?_
          refine va_get (ci := 6) (v := .ref (q 1)) (C := RX6) (T := TX6) (N := 26) hx hb hts inlX6 hown hE.1 hP 0 rfl rfl 0 (by decide) (hts _ wB83) (fun _ h9 => h9) rfl dX6_part_89 ?_
          refine lv_iload hx hb dX6_part_92 (lv_at hl 0 rfl) ?_
          refine lv_iconst (v := 2) hx hb dX6_part_94 (by decide) ?_
          refine lv_iadd hx hb dX6_part_95 ?_
          refine lv_iload_n hx hb dX6_part_96 rfl (lv_at hl 4 rfl) ?_
          obtain ⟨hg97, hf⟩ := gd_s hf
          refine va_iast (f := (upd (upd (gR u 0) ((60 + (3 * ((gR u 0) ((2 : Int32).toNatClampNeg)))).toNatClampNeg) a1) (((60 + (3 * ((gR u 0) ((2 : Int32).toNatClampNeg)))) + 1).toNatClampNeg) a2)) hx hb hE.1 hP hD hS 1 0 rfl rfl hg97 dX6_part_97 (fun H locs hP hD hS => ?_)
          have hQ : ∀ (xb : KS) (x0 : (Nat → Int32)) (xn : (Nat → Int32)), (WM q cy (sR xb 0 x0) ++ rest).set 1 (q 1, .inl (cy 0, 200, .inl xn)) = WM q cy (sR xb 0 xn) ++ rest := fun _ _ _ => rfl
          have hP : va_P D vwCl (WM q cy (sR u 0 (upd (upd (upd (gR u 0) ((60 + (3 * ((gR u 0) ((2 : Int32).toNatClampNeg)))).toNatClampNeg) a1) (((60 + (3 * ((gR u 0) ((2 : Int32).toNatClampNeg)))) + 1).toNatClampNeg) a2) (((60 + (3 * ((gR u 0) ((2 : Int32).toNatClampNeg)))) + 2).toNatClampNeg) a3)) ++ rest) H := k_wP (hQ u (upd (upd (gR u 0) ((60 + (3 * ((gR u 0) ((2 : Int32).toNatClampNeg)))).toNatClampNeg) a1) (((60 + (3 * ((gR u 0) ((2 : Int32).toNatClampNeg)))) + 1).toNatClampNeg) a2) (upd (upd (upd (gR u 0) ((60 + (3 * ((gR u 0) ((2 : Int32).toNatClampNeg)))).toNatClampNeg) a1) (((60 + (3 * ((gR u 0) ((2 : Int32).toNatClampNeg)))) + 1).toNatClampNeg) a2) (((60 + (3 * ((gR u 0) ((2 : Int32).toNatClampNeg)))) + 2).toNatClampNeg) a3)) hP
          have hD : va_D A (WM q cy (sR u 0 (upd (upd (upd (gR u 0) ((60 + (3 * ((gR u 0) ((2 : Int32).toNatClampNeg)))).toNatClampNeg) a1) (((60 + (3 * ((gR u 0) ((2 : Int32).toNatClampNeg)))) + 1).toNatClampNeg) a2) (((60 + (3 * ((gR u 0) ((2 : Int32).toNatClampNeg)))) + 2).toNatClampNeg) a3)) ++ rest) := k_wD (hQ u (upd (upd (gR u 0) ((60 + (3 * ((gR u 0) ((2 : Int32).toNatClampNeg)))).toNatClampNeg) a1) (((60 + (3 * ((gR u 0) ((2 : Int32).toNatClampNeg)))) + 1).toNatClampNeg) a2) (upd (upd (upd (gR u 0) ((60 + (3 * ((gR u 0) ((2 : Int32).toNatClampNeg)))).toNatClampNeg) a1) (((60 + (3 * ((gR u 0) ((2 : Int32).toNatClampNeg)))) + 1).toNatClampNeg) a2) (((60 + (3 * ((gR u 0) ((2 : Int32).toNatClampNeg)))) + 2).toNatClampNeg) a3)) hD
          clear hQ
          refine lv_aload_n hx hb dX6_part_98 rfl (lv_at hl 1 rfl) ?_
          refine va_get (ci := 6) (v := .ref (q 1)) (C := RX6) (T := TX6) (N := 26) hx hb hts inlX6 hown hE.1 hP 0 rfl rfl 0 (by decide) (hts _ wB83) (fun _ h9 => h9) rfl dX6_part_99 ?_
          refine lv_iconst (v := 2) hx hb dX6_part_102 (by decide) ?_
          refine lv_dup2_11 hx hb dX6_part_103 rfl rfl ?_
          refine va_iald (f := (upd (upd (upd (gR u 0) ((60 + (3 * ((gR u 0) ((2 : Int32).toNatClampNeg)))).toNatClampNeg) a1) (((60 + (3 * ((gR u 0) ((2 : Int32).toNatClampNeg)))) + 1).toNatClampNeg) a2) (((60 + (3 * ((gR u 0) ((2 : Int32).toNatClampNeg)))) + 2).toNatClampNeg) a3)) hx hb hE.1 hP 1 0 rfl rfl (k_in (by decide)) dX6_part_104 ?_
          refine lv_iconst (v := 1) hx hb dX6_part_105 (by decide) ?_
          refine lv_iadd hx hb dX6_part_106 ?_
          refine va_iast (f := (upd (upd (upd (gR u 0) ((60 + (3 * ((gR u 0) ((2 : Int32).toNatClampNeg)))).toNatClampNeg) a1) (((60 + (3 * ((gR u 0) ((2 : Int32).toNatClampNeg)))) + 1).toNatClampNeg) a2) (((60 + (3 * ((gR u 0) ((2 : Int32).toNatClampNeg)))) + 2).toNatClampNeg) a3)) hx hb hE.1 hP hD hS 1 0 rfl rfl (k_in (by decide)) dX6_part_107 (fun H locs hP hD hS => ?_)
          have hQ : ∀ (xb : KS) (x0 : (Nat → Int32)) (xn : (Nat → Int32)), (WM q cy (sR xb 0 x0) ++ rest).set 1 (q 1, .inl (cy 0, 200, .inl xn)) = WM q cy (sR xb 0 xn) ++ rest := fun _ _ _ => rfl
          have hP : va_P D vwCl (WM q cy (sR u 0 (upd (upd (upd (upd (gR u 0) ((60 + (3 * ((gR u 0) ((2 : Int32).toNatClampNeg)))).toNatClampNeg) a1) (((60 + (3 * ((gR u 0) ((2 : Int32).toNatClampNeg)))) + 1).toNatClampNeg) a2) (((60 + (3 * ((gR u 0) ((2 : Int32).toNatClampNeg)))) + 2).toNatClampNeg) a3) ((2 : Int32).toNatClampNeg) (((upd (upd (upd (gR u 0) ((60 + (3 * ((gR u 0) ((2 : Int32).toNatClampNeg)))).toNatClampNeg) a1) (((60 + (3 * ((gR u 0) ((2 : Int32).toNatClampNeg)))) + 1).toNatClampNeg) a2) (((60 + (3 * ((gR u 0) ((2 : Int32).toNatClampNeg)))) + 2).toNatClampNeg) a3) ((2 : Int32).toNatClampNeg)) + 1))) ++ rest) H := k_wP (hQ u (upd (upd (upd (gR u 0) ((60 + (3 * ((gR u 0) ((2 : Int32).toNatClampNeg)))).toNatClampNeg) a1) (((60 + (3 * ((gR u 0) ((2 : Int32).toNatClampNeg)))) + 1).toNatClampNeg) a2) (((60 + (3 * ((gR u 0) ((2 : Int32).toNatClampNeg)))) + 2).toNatClampNeg) a3) (upd (upd (upd (upd (gR u 0) ((60 + (3 * ((gR u 0) ((2 : Int32).toNatClampNeg)))).toNatClampNeg) a1) (((60 + (3 * ((gR u 0) ((2 : Int32).toNatClampNeg)))) + 1).toNatClampNeg) a2) (((60 + (3 * ((gR u 0) ((2 : Int32).toNatClampNeg)))) + 2).toNatClampNeg) a3) ((2 : Int32).toNatClampNeg) (((upd (upd (upd (gR u 0) ((60 + (3 * ((gR u 0) ((2 : Int32).toNatClampNeg)))).toNatClampNeg) a1) (((60 + (3 * ((gR u 0) ((2 : Int32).toNatClampNeg)))) + 1).toNatClampNeg) a2) (((60 + (3 * ((gR u 0) ((2 : Int32).toNatClampNeg)))) + 2).toNatClampNeg) a3) ((2 : Int32).toNatClampNeg)) + 1))) hP
          have hD : va_D A (WM q cy (sR u 0 (upd (upd (upd (upd (gR u 0) ((60 + (3 * ((gR u 0) ((2 : Int32).toNatClampNeg)))).toNatClampNeg) a1) (((60 + (3 * ((gR u 0) ((2 : Int32).toNatClampNeg)))) + 1).toNatClampNeg) a2) (((60 + (3 * ((gR u 0) ((2 : Int32).toNatClampNeg)))) + 2).toNatClampNeg) a3) ((2 : Int32).toNatClampNeg) (((upd (upd (upd (gR u 0) ((60 + (3 * ((gR u 0) ((2 : Int32).toNatClampNeg)))).toNatClampNeg) a1) (((60 + (3 * ((gR u 0) ((2 : Int32).toNatClampNeg)))) + 1).toNatClampNeg) a2) (((60 + (3 * ((gR u 0) ((2 : Int32).toNatClampNeg)))) + 2).toNatClampNeg) a3) ((2 : Int32).toNatClampNeg)) + 1))) ++ rest) := k_wD (hQ u (upd (upd (upd (gR u 0) ((60 + (3 * ((gR u 0) ((2 : Int32).toNatClampNeg)))).toNatClampNeg) a1) (((60 + (3 * ((gR u 0) ((2 : Int32).toNatClampNeg)))) + 1).toNatClampNeg) a2) (((60 + (3 * ((gR u 0) ((2 : Int32).toNatClampNeg)))) + 2).toNatClampNeg) a3) (upd (upd (upd (upd (gR u 0) ((60 + (3 * ((gR u 0) ((2 : Int32).toNatClampNeg)))).toNatClampNeg) a1) (((60 + (3 * ((gR u 0) ((2 : Int32).toNatClampNeg)))) + 1).toNatClampNeg) a2) (((60 + (3 * ((gR u 0) ((2 : Int32).toNatClampNeg)))) + 2).toNatClampNeg) a3) ((2 : Int32).toNatClampNeg) (((upd (upd (upd (gR u 0) ((60 + (3 * ((gR u 0) ((2 : Int32).toNatClampNeg)))).toNatClampNeg) a1) (((60 + (3 * ((gR u 0) ((2 : Int32).toNatClampNeg)))) + 1).toNatClampNeg) a2) (((60 + (3 * ((gR u 0) ((2 : Int32).toNatClampNeg)))) + 2).toNatClampNeg) a3) ((2 : Int32).toNatClampNeg)) + 1))) hD
          clear hQ
          refine lv_aload_n hx hb dX6_part_108 rfl (lv_at hl 1 rfl) ?_
          refine va_get (ci := 6) (v := .ref (q 1)) (C := RX6) (T := TX6) (N := 26) hx hb hts inlX6 hown hE.1 hP 0 rfl rfl 0 (by decide) (hts _ wB83) (fun _ h9 => h9) rfl dX6_part_109 ?_
          refine lv_iconst (v := 2) hx hb dX6_part_112 (by decide) ?_
          refine va_iald (f := (upd (upd (upd (upd (gR u 0) ((60 + (3 * ((gR u 0) ((2 : Int32).toNatClampNeg)))).toNatClampNeg) a1) (((60 + (3 * ((gR u 0) ((2 : Int32).toNatClampNeg)))) + 1).toNatClampNeg) a2) (((60 + (3 * ((gR u 0) ((2 : Int32).toNatClampNeg)))) + 2).toNatClampNeg) a3) ((2 : Int32).toNatClampNeg) (((upd (upd (upd (gR u 0) ((60 + (3 * ((gR u 0) ((2 : Int32).toNatClampNeg)))).toNatClampNeg) a1) (((60 + (3 * ((gR u 0) ((2 : Int32).toNatClampNeg)))) + 1).toNatClampNeg) a2) (((60 + (3 * ((gR u 0) ((2 : Int32).toNatClampNeg)))) + 2).toNatClampNeg) a3) ((2 : Int32).toNatClampNeg)) + 1))) hx hb hE.1 hP 1 0 rfl rfl (k_in (by decide)) dX6_part_113 ?_
          refine lv_iconst (v := 1) hx hb dX6_part_114 (by decide) ?_
          refine lv_isub hx hb dX6_part_115 ?_
          obtain rfl := o_ret hf
          exact k_iret hx hb hr hP hD hS (Nat.zero_le _) (Nat.zero_le _) hlocks dX6_part_116
        · have hf := o_ip c49 hf
          refine lv_aload_n hx hb dX6_part_52 rfl (lv_at hl 0 rfl) ?_
          obtain ⟨r53, h53r, hf⟩ := o_bs hf
          refine k_goi (va_runV (As := []) (rest := []) ⟨hx, hb, hml, hown, hts⟩ (zX6_full l D cy sa q rest H.size u  r53 h53r) (cwV 0 hts (gB_V wB152 wB153 wB154 wB5 wB155) rfl rfl rfl (by decide +kernel) ⟨Nat.le_of_ble_eq_true rfl, Nat.le_of_ble_eq_true rfl⟩) ⟨kP.blind, k_recv hE hP (ci := 6) (q0 := 0) rfl rfl, k_pre hP hD hS hE hA⟩ rfl rfl hl.1 rfl (lv_room (Nat.le_of_ble_eq_true rfl)) dX6_part_53 ⟨Nat.zero_le _, Nat.zero_le _⟩) hD hS hA (fun H locs hP hD hS => ?_)
          obtain rfl := o_ret hf
          exact k_iret hx hb hr hP hD hS (Nat.zero_le _) (Nat.zero_le _) hlocks dX6_part_56
      · have hf := o_ip c33 hf
        refine lv_aload_n hx hb dX6_part_36 rfl (lv_at hl 0 rfl) ?_
        obtain ⟨r37, h37r, hf⟩ := o_bs hf
        refine k_goi (va_runV (As := []) (rest := []) ⟨hx, hb, hml, hown, hts⟩ (zX6_bad l D cy sa q rest H.size u  r37 h37r) (cwV 0 hts (gB_V wB144 wB145 wB146 wB5 wB147) rfl rfl rfl (by decide +kernel) ⟨Nat.le_of_ble_eq_true rfl, Nat.le_of_ble_eq_true rfl⟩) ⟨kP.blind, k_recv hE hP (ci := 6) (q0 := 0) rfl rfl, k_pre hP hD hS hE hA⟩ rfl rfl hl.1 rfl (lv_room (Nat.le_of_ble_eq_true rfl)) dX6_part_37 ⟨Nat.zero_le _, Nat.zero_le _⟩) hD hS hA (fun H locs hP hD hS => ?_)
        obtain rfl := o_ret hf
        exact k_iret hx hb hr hP hD hS (Nat.zero_le _) (Nat.zero_le _) hlocks dX6_part_40
