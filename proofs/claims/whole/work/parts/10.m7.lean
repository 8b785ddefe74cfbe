noncomputable def mX6_prior (u : KS) (a1 : Int32) (a2 : Int32) : Option (Int32 × KS) :=
  (mX6_in (a1.toInt64) 0 6).bind fun r6 =>
  if r6 = 0 then
  ((mX6_bad u).bind fun r37 =>
  some (r37.1, r37.2))
  else
  ((mX6_in (a2.toInt64) 0 9).bind fun r18 =>
  if r18 = 0 then
  ((mX6_bad u).bind fun r37 =>
  some (r37.1, r37.2))
  else
  ((mX6_puts u (8 + a1) a2).bind fun r30 =>
  some (r30.1, r30.2)))
abbrev rmX6_prior : Room := { frames := 2, cells := 0, slots := 0, locals := 42 }
set_option maxRecDepth 100000 in
set_option maxHeartbeats 4000000 in
theorem zX6_prior (l : Launch) (D : va_G) (cy : Nat → ClassId) (sa : Nat → Nat) (q : Nat → Nat) (rest : va_W) (sz : Nat) (u : KS) (a1 : Int32) (a2 : Int32) (res : Int32 × KS) (hf : mX6_prior u a1 a2 = some res) : kMi l yX6_prior (wsK yX6_prior cX6_prior 3 (some .int)) rmX6_prior D cy sa (WM q cy u ++ rest) sz [.ref (q 0), .int a1, .int a2] res.1 (WM q cy res.2 ++ rest) 0 0 := by
  refine kM_of (Qc := fun A => kQi D A res.1 (WM q cy res.2 ++ rest)) (cc := cX6_prior) (maxL := 3) (ret := (some .int)) (by decide) (Nat.le_of_ble_eq_true rfl) ?_
  intro p e s m below meth c A hx hb hml hr hts hown hlocks hin hA hP hD hS hE hsz ls hl
  have hown : s.vm.findClass RX6 = some m.cls := hown
  obtain ⟨H, hH0⟩ : ∃ H, H = s.heap := ⟨_, rfl⟩
  obtain ⟨locs, hlocs0⟩ : ∃ locs : List Loc, locs = [] := ⟨_, rfl⟩
  have hP : va_P D vwCl (WM q cy u ++ rest) H := by rw [hH0]; exact hP
  have hS : va_S A s.heap H locs := by rw [hH0, hlocs0]; exact hS
  have hl : lv_has ls 3 [(0, .ref (q 0)), (1, .int a1), (2, .int a2)] := hl
  suffices hgoal : W p l e rmX6_prior s m ([.ref (q 0), .int a1, .int a2] : List Value).toArray below meth c H locs 0 0 (MQ below (kQi D A res.1 (WM q cy res.2 ++ rest)) ([.ref (q 0), .int a1, .int a2] : List Value).toArray s 0 0 A) (F0 m 0 ls []) by rw [hH0, hlocs0] at hgoal; exact hgoal
  clear hH0 hlocs0
  unfold mX6_prior at hf
  refine lv_iload_n hx hb dX6_prior_0 rfl (lv_at hl 1 rfl) ?_
  refine lv_i2l (v := (a1.toInt64)) hx hb dX6_prior_1 rfl ?_
  refine lv_lconst (v := 0) hx hb dX6_prior_2 (by decide) ?_
  refine lv_ldc2 (v := 6) hx hb hown (hts _ wB357) dX6_prior_3 ?_
  obtain ⟨r6, h6r, hf⟩ := o_bs hf
  refine k_goi (va_runS (As := [.long (a1.toInt64), .long 0, .long 6]) (rest := []) ⟨hx, hb, hml, hown, hts⟩ (zX6_in l D cy sa (WM q cy u ++ rest) H.size (a1.toInt64) 0 6  r6  h6r) (va_cwS 3 hts (gB_S wB141 wB142 wB5 wB143) rfl rfl rfl (by decide +kernel) ⟨Nat.le_of_ble_eq_true rfl, Nat.le_of_ble_eq_true rfl⟩) ⟨kP.blind, k_pre hP hD hS hE hA⟩ rfl rfl hl.1 rfl (lv_room (Nat.le_of_ble_eq_true rfl)) dX6_prior_6 ⟨Nat.zero_le _, Nat.zero_le _⟩) hD hS hA (fun H locs hP hD hS => ?_)
  refine lv_if_eq (tgt := 36) hx hb dX6_prior_9 (by decide) (fun c9 => ?_) (fun c9 => ?_)
  · have hf := o_ip c9 hf
    refine lv_aload_n hx hb dX6_prior_36 rfl (lv_at hl 0 rfl) ?_
    obtain ⟨r37, h37r, hf⟩ := o_bs hf
    refine k_goi (va_runV (As := []) (rest := []) ⟨hx, hb, hml, hown, hts⟩ (zX6_bad l D cy sa q rest H.size u  r37 h37r) (cwV 0 hts (gB_V wB144 wB145 wB146 wB5 wB147) rfl rfl rfl (by decide +kernel) ⟨Nat.le_of_ble_eq_true rfl, Nat.le_of_ble_eq_true rfl⟩) ⟨kP.blind, k_recv hE hP (ci := 6) (q0 := 0) rfl rfl, k_pre hP hD hS hE hA⟩ rfl rfl hl.1 rfl (lv_room (Nat.le_of_ble_eq_true rfl)) dX6_prior_37 ⟨Nat.zero_le _, Nat.zero_le _⟩) hD hS hA (fun H locs hP hD hS => ?_)
    obtain rfl := o_ret hf
    exact k_iret hx hb hr hP hD hS (Nat.zero_le _) (Nat.zero_le _) hlocks dX6_prior_40
  · have hf := o_in c9 hf
    refine lv_iload_n hx hb dX6_prior_12 rfl (lv_at hl 2 rfl) ?_
    refine lv_i2l (v := (a2.toInt64)) hx hb dX6_prior_13 rfl ?_
    refine lv_lconst (v := 0) hx hb dX6_prior_14 (by decide) ?_
    refine lv_ldc2 (v := 9) hx hb hown (hts _ wB292) dX6_prior_15 ?_
    obtain ⟨r18, h18r, hf⟩ := o_bs hf
    refine k_goi (va_runS (As := [.long (a2.toInt64), .long 0, .long 9]) (rest := []) ⟨hx, hb, hml, hown, hts⟩ (zX6_in l D cy sa (WM q cy u ++ rest) H.size (a2.toInt64) 0 9  r18  h18r) (va_cwS 3 hts (gB_S wB141 wB142 wB5 wB143) rfl rfl rfl (by decide +kernel) ⟨Nat.le_of_ble_eq_true rfl, Nat.le_of_ble_eq_true rfl⟩) ⟨kP.blind, k_pre hP hD hS hE hA⟩ rfl rfl hl.1 rfl (lv_room (Nat.le_of_ble_eq_true rfl)) dX6_prior_18 ⟨Nat.zero_le _, Nat.zero_le _⟩) hD hS hA (fun H locs hP hD hS => ?_)
    refine lv_if_eq (tgt := 36) hx hb dX6_prior_21 (by decide) (fun c21 => ?_) (fun c21 => ?_)
    · have hf := o_ip c21 hf
      refine lv_aload_n hx hb dX6_prior_36 rfl (lv_at hl 0 rfl) ?_
      obtain ⟨r37, h37r, hf⟩ := o_bs hf
      refine k_goi (va_runV (As := []) (rest := []) ⟨hx, hb, hml, hown, hts⟩ (zX6_bad l D cy sa q rest H.size u  r37 h37r) (cwV 0 hts (gB_V wB144 wB145 wB146 wB5 wB147) rfl rfl rfl (by decide +kernel) ⟨Nat.le_of_ble_eq_true rfl, Nat.le_of_ble_eq_true rfl⟩) ⟨kP.blind, k_recv hE hP (ci := 6) (q0 := 0) rfl rfl, k_pre hP hD hS hE hA⟩ rfl rfl hl.1 rfl (lv_room (Nat.le_of_ble_eq_true rfl)) dX6_prior_37 ⟨Nat.zero_le _, Nat.zero_le _⟩) hD hS hA (fun H locs hP hD hS => ?_)
      obtain rfl := o_ret hf
      exact k_iret hx hb hr hP hD hS (Nat.zero_le _) (Nat.zero_le _) hlocks dX6_prior_40
    · have hf := o_in c21 hf
      refine lv_aload_n hx hb dX6_prior_24 rfl (lv_at hl 0 rfl) ?_
      refine lv_bipush (v := 8) hx hb dX6_prior_25 (by decide) ?_
      refine lv_iload_n hx hb dX6_prior_27 rfl (lv_at hl 1 rfl) ?_
      refine lv_iadd hx hb dX6_prior_28 ?_
      refine lv_iload_n hx hb dX6_prior_29 rfl (lv_at hl 2 rfl) ?_
      obtain ⟨r30, h30r, hf⟩ := o_bs hf
      refine k_goi (va_runV (As := [.int (8 + a1), .int a2]) (rest := []) ⟨hx, hb, hml, hown, hts⟩ (zX6_puts l D cy sa q rest H.size u (8 + a1) a2 r30 h30r) (cwV 2 hts (gB_V wB164 wB165 wB166 wB5 wB167) rfl rfl rfl (by decide +kernel) ⟨Nat.le_of_ble_eq_true rfl, Nat.le_of_ble_eq_true rfl⟩) ⟨kP.blind, k_recv hE hP (ci := 6) (q0 := 0) rfl rfl, k_pre hP hD hS hE hA⟩ rfl rfl hl.1 rfl (lv_room (Nat.le_of_ble_eq_true rfl)) dX6_prior_30 ⟨Nat.zero_le _, Nat.zero_le _⟩) hD hS hA (fun H locs hP hD hS => ?_)
      refine lv_goto (tgt := 40) hx hb dX6_prior_33 (by decide) ?_
      obtain rfl := o_ret hf
      exact k_iret hx hb hr hP hD hS (Nat.zero_le _) (Nat.zero_le _) hlocks dX6_prior_40
noncomputable def mX6_put (u : KS) (a1 : Int32) (a2 : Int32) : Option (Int32 × KS) :=
  if a1 = 0 then
  ((mX6_in (a2.toInt64) 0 100).bind fun r10 =>
  if r10 = 0 then
  ((mX6_bad u).bind fun r89 =>
  some (r89.1, r89.2))
  else
  ((mX6_puts u (4 + a1) a2).bind fun r82 =>
  some (r82.1, r82.2)))
  else
  (if a1 = 1 then
  ((mX6_in (a2.toInt64) 1 40).bind fun r27 =>
  if r27 = 0 then
  ((mX6_bad u).bind fun r89 =>
  some (r89.1, r89.2))
  else
  ((mX6_puts u (4 + a1) a2).bind fun r82 =>
  some (r82.1, r82.2)))
  else
  (if a1 = 2 then
  ((mX6_in (a2.toInt64) 1 9).bind fun r44 =>
  if r44 = 0 then
  ((mX6_bad u).bind fun r89 =>
  some (r89.1, r89.2))
  else
  ((mX6_puts u (4 + a1) a2).bind fun r82 =>
  some (r82.1, r82.2)))
  else
  (if a1 = 3 then
  ((mX6_in (a2.toInt64) 0 99).bind fun r61 =>
  if r61 = 0 then
  ((mX6_bad u).bind fun r89 =>
  some (r89.1, r89.2))
  else
  ((mX6_puts u (4 + a1) a2).bind fun r82 =>
  some (r82.1, r82.2)))
  else
  ((mX6_bad u).bind fun r89 =>
  some (r89.1, r89.2)))))
abbrev rmX6_put : Room := { frames := 2, cells := 0, slots := 0, locals := 42 }
set_option maxRecDepth 100000 in
set_option maxHeartbeats 4000000 in
theorem zX6_put (l : Launch) (D : va_G) (cy : Nat → ClassId) (sa : Nat → Nat) (q : Nat → Nat) (rest : va_W) (sz : Nat) (u : KS) (a1 : Int32) (a2 : Int32) (res : Int32 × KS) (hf : mX6_put u a1 a2 = some res) : kMi l yX6_put (wsK yX6_put cX6_put 4 (some .int)) rmX6_put D cy sa (WM q cy u ++ rest) sz [.ref (q 0), .int a1, .int a2] res.1 (WM q cy res.2 ++ rest) 0 0 := by
  refine kM_of (Qc := fun A => kQi D A res.1 (WM q cy res.2 ++ rest)) (cc := cX6_put) (maxL := 4) (ret := (some .int)) (by decide) (Nat.le_of_ble_eq_true rfl) ?_
  intro p e s m below meth c A hx hb hml hr hts hown hlocks hin hA hP hD hS hE hsz ls hl
  have hown : s.vm.findClass RX6 = some m.cls := hown
  obtain ⟨H, hH0⟩ : ∃ H, H = s.heap := ⟨_, rfl⟩
  obtain ⟨locs, hlocs0⟩ : ∃ locs : List Loc, locs = [] := ⟨_, rfl⟩
  have hP : va_P D vwCl (WM q cy u ++ rest) H := by rw [hH0]; exact hP
  have hS : va_S A s.heap H locs := by rw [hH0, hlocs0]; exact hS
  have hl : lv_has ls 4 [(0, .ref (q 0)), (1, .int a1), (2, .int a2)] := hl
  suffices hgoal : W p l e rmX6_put s m ([.ref (q 0), .int a1, .int a2] : List Value).toArray below meth c H locs 0 0 (MQ below (kQi D A res.1 (WM q cy res.2 ++ rest)) ([.ref (q 0), .int a1, .int a2] : List Value).toArray s 0 0 A) (F0 m 0 ls []) by rw [hH0, hlocs0] at hgoal; exact hgoal
  clear hH0 hlocs0
  unfold mX6_put at hf
  refine lv_iload_n hx hb dX6_put_0 rfl (lv_at hl 1 rfl) ?_
  refine lv_if_ne (tgt := 16) hx hb dX6_put_1 (by decide) (fun c1 => ?_) (fun c1 => ?_)
  · have hf := o_in c1 hf
    refine lv_iload_n hx hb dX6_put_16 rfl (lv_at hl 1 rfl) ?_
    refine lv_iconst (v := 1) hx hb dX6_put_17 (by decide) ?_
    refine lv_icmp_ne (tgt := 33) hx hb dX6_put_18 (by decide) (fun c18 => ?_) (fun c18 => ?_)
    · have hf := o_in c18 hf
      refine lv_iload_n hx hb dX6_put_33 rfl (lv_at hl 1 rfl) ?_
      refine lv_iconst (v := 2) hx hb dX6_put_34 (by decide) ?_
      refine lv_icmp_ne (tgt := 50) hx hb dX6_put_35 (by decide) (fun c35 => ?_) (fun c35 => ?_)
      · have hf := o_in c35 hf
        refine lv_iload_n hx hb dX6_put_50 rfl (lv_at hl 1 rfl) ?_
        refine lv_iconst (v := 3) hx hb dX6_put_51 (by decide) ?_
        refine lv_icmp_ne (tgt := 71) hx hb dX6_put_52 (by decide) (fun c52 => ?_) (fun c52 => ?_)
        · have hf := o_in c52 hf
          refine lv_iconst (v := 0) hx hb dX6_put_71 (by decide) ?_
          refine lv_istore_n (lv' := [(3, .int 0), (0, .ref (q 0)), (1, .int a1), (2, .int a2)]) hx hb dX6_put_72 rfl hl (by decide) rfl (fun ls hl => ?_)
          refine lv_iload_n hx hb dX6_put_73 rfl (lv_at hl 0 rfl) ?_
          refine lv_if_eq (tgt := 88) hx hb dX6_put_74 (by decide) (fun c74 => ?_) (fun c74 => absurd c74 (by decide))
          refine lv_aload_n hx hb dX6_put_88 rfl (lv_at hl 1 rfl) ?_
          obtain ⟨r89, h89r, hf⟩ := o_bs hf
          refine k_goi (va_runV (As := []) (rest := []) ⟨hx, hb, hml, hown, hts⟩ (zX6_bad l D cy sa q rest H.size u  r89 h89r) (cwV 0 hts (gB_V wB144 wB145 wB146 wB5 wB147) rfl rfl rfl (by decide +kernel) ⟨Nat.le_of_ble_eq_true rfl, Nat.le_of_ble_eq_true rfl⟩) ⟨kP.blind, k_recv hE hP (ci := 6) (q0 := 0) rfl rfl, k_pre hP hD hS hE hA⟩ rfl rfl hl.1 rfl (lv_room (Nat.le_of_ble_eq_true rfl)) dX6_put_89 ⟨Nat.zero_le _, Nat.zero_le _⟩) hD hS hA (fun H locs hP hD hS => ?_)
          obtain rfl := o_ret hf
          exact k_iret hx hb hr hP hD hS (Nat.zero_le _) (Nat.zero_le _) hlocks dX6_put_92
        · have hf := o_ip c52 hf
          refine lv_iload_n hx hb dX6_put_55 rfl (lv_at hl 2 rfl) ?_
          refine lv_i2l (v := (a2.toInt64)) hx hb dX6_put_56 rfl ?_
          refine lv_lconst (v := 0) hx hb dX6_put_57 (by decide) ?_
          refine lv_ldc2 (v := 99) hx hb hown (hts _ wB347) dX6_put_58 ?_
          obtain ⟨r61, h61r, hf⟩ := o_bs hf
          refine k_goi (va_runS (As := [.long (a2.toInt64), .long 0, .long 99]) (rest := []) ⟨hx, hb, hml, hown, hts⟩ (zX6_in l D cy sa (WM q cy u ++ rest) H.size (a2.toInt64) 0 99  r61  h61r) (va_cwS 3 hts (gB_S wB141 wB142 wB5 wB143) rfl rfl rfl (by decide +kernel) ⟨Nat.le_of_ble_eq_true rfl, Nat.le_of_ble_eq_true rfl⟩) ⟨kP.blind, k_pre hP hD hS hE hA⟩ rfl rfl hl.1 rfl (lv_room (Nat.le_of_ble_eq_true rfl)) dX6_put_61 ⟨Nat.zero_le _, Nat.zero_le _⟩) hD hS hA (fun H locs hP hD hS => ?_)
          refine lv_if_eq (tgt := 71) hx hb dX6_put_64 (by decide) (fun c64 => ?_) (fun c64 => ?_)
          · have hf := o_ip c64 hf
            refine lv_iconst (v := 0) hx hb dX6_put_71 (by decide) ?_
            refine lv_istore_n (lv' := [(3, .int 0), (0, .ref (q 0)), (1, .int a1), (2, .int a2)]) hx hb dX6_put_72 rfl hl (by decide) rfl (fun ls hl => ?_)
            refine lv_iload_n hx hb dX6_put_73 rfl (lv_at hl 0 rfl) ?_
            refine lv_if_eq (tgt := 88) hx hb dX6_put_74 (by decide) (fun c74 => ?_) (fun c74 => absurd c74 (by decide))
            refine lv_aload_n hx hb dX6_put_88 rfl (lv_at hl 1 rfl) ?_
            obtain ⟨r89, h89r, hf⟩ := o_bs hf
            refine k_goi (va_runV (As := []) (rest := []) ⟨hx, hb, hml, hown, hts⟩ (zX6_bad l D cy sa q rest H.size u  r89 h89r) (cwV 0 hts (gB_V wB144 wB145 wB146 wB5 wB147) rfl rfl rfl (by decide +kernel) ⟨Nat.le_of_ble_eq_true rfl, Nat.le_of_ble_eq_true rfl⟩) ⟨kP.blind, k_recv hE hP (ci := 6) (q0 := 0) rfl rfl, k_pre hP hD hS hE hA⟩ rfl rfl hl.1 rfl (lv_room (Nat.le_of_ble_eq_true rfl)) dX6_put_89 ⟨Nat.zero_le _, Nat.zero_le _⟩) hD hS hA (fun H locs hP hD hS => ?_)
            obtain rfl := o_ret hf
            exact k_iret hx hb hr hP hD hS (Nat.zero_le _) (Nat.zero_le _) hlocks dX6_put_92
          · have hf := o_in c64 hf
            refine lv_iconst (v := 1) hx hb dX6_put_67 (by decide) ?_
            refine lv_goto (tgt := 72) hx hb dX6_put_68 (by decide) ?_
            refine lv_istore_n (lv' := [(3, .int 1), (0, .ref (q 0)), (1, .int a1), (2, .int a2)]) hx hb dX6_put_72 rfl hl (by decide) rfl (fun ls hl => ?_)
            refine lv_iload_n hx hb dX6_put_73 rfl (lv_at hl 0 rfl) ?_
            refine lv_if_eq (tgt := 88) hx hb dX6_put_74 (by decide) (fun c74 => absurd c74 (by decide)) (fun c74 => ?_)
            refine lv_aload_n hx hb dX6_put_77 rfl (lv_at hl 1 rfl) ?_
            refine lv_iconst (v := 4) hx hb dX6_put_78 (by decide) ?_
            refine lv_iload_n hx hb dX6_put_79 rfl (lv_at hl 2 rfl) ?_
            refine lv_iadd hx hb dX6_put_80 ?_
            refine lv_iload_n hx hb dX6_put_81 rfl (lv_at hl 3 rfl) ?_
            obtain ⟨r82, h82r, hf⟩ := o_bs hf
            refine k_goi (va_runV (As := [.int (4 + a1), .int a2]) (rest := []) ⟨hx, hb, hml, hown, hts⟩ (zX6_puts l D cy sa q rest H.size u (4 + a1) a2 r82 h82r) (cwV 2 hts (gB_V wB164 wB165 wB166 wB5 wB167) rfl rfl rfl (by decide +kernel) ⟨Nat.le_of_ble_eq_true rfl, Nat.le_of_ble_eq_true rfl⟩) ⟨kP.blind, k_recv hE hP (ci := 6) (q0 := 0) rfl rfl, k_pre hP hD hS hE hA⟩ rfl rfl hl.1 rfl (lv_room (Nat.le_of_ble_eq_true rfl)) dX6_put_82 ⟨Nat.zero_le _, Nat.zero_le _⟩) hD hS hA (fun H locs hP hD hS => ?_)
            refine lv_goto (tgt := 92) hx hb dX6_put_85 (by decide) ?_
            obtain rfl := o_ret hf
            exact k_iret hx hb hr hP hD hS (Nat.zero_le _) (Nat.zero_le _) hlocks dX6_put_92
      · have hf := o_ip c35 hf
        refine lv_iload_n hx hb dX6_put_38 rfl (lv_at hl 2 rfl) ?_
        refine lv_i2l (v := (a2.toInt64)) hx hb dX6_put_39 rfl ?_
        refine lv_lconst (v := 1) hx hb dX6_put_40 (by decide) ?_
        refine lv_ldc2 (v := 9) hx hb hown (hts _ wB292) dX6_put_41 ?_
        obtain ⟨r44, h44r, hf⟩ := o_bs hf
        refine k_goi (va_runS (As := [.long (a2.toInt64), .long 1, .long 9]) (rest := []) ⟨hx, hb, hml, hown, hts⟩ (zX6_in l D cy sa (WM q cy u ++ rest) H.size (a2.toInt64) 1 9  r44  h44r) (va_cwS 3 hts (gB_S wB141 wB142 wB5 wB143) rfl rfl rfl (by decide +kernel) ⟨Nat.le_of_ble_eq_true rfl, Nat.le_of_ble_eq_true rfl⟩) ⟨kP.blind, k_pre hP hD hS hE hA⟩ rfl rfl hl.1 rfl (lv_room (Nat.le_of_ble_eq_true rfl)) dX6_put_44 ⟨Nat.zero_le _, Nat.zero_le _⟩) hD hS hA (fun H locs hP hD hS => ?_)
        refine lv_goto (tgt := 72) hx hb dX6_put_47 (by decide) ?_
        refine lv_istore_n (lv' := [(3, .int r44), (0, .ref (q 0)), (1, .int a1), (2, .int a2)]) hx hb dX6_put_72 rfl hl (by decide) rfl (fun ls hl => ?_)
        refine lv_iload_n hx hb dX6_put_73 rfl (lv_at hl 0 rfl) ?_
        refine lv_if_eq (tgt := 88) hx hb dX6_put_74 (by decide) (fun c74 => ?_) (fun c74 => ?_)
        · have hf := o_ip c74 hf
          refine lv_aload_n hx hb dX6_put_88 rfl (lv_at hl 1 rfl) ?_
          obtain ⟨r89, h89r, hf⟩ := o_bs hf
          refine k_goi (va_runV (As := []) (rest := []) ⟨hx, hb, hml, hown, hts⟩ (zX6_bad l D cy sa q rest H.size u  r89 h89r) (cwV 0 hts (gB_V wB144 wB145 wB146 wB5 wB147) rfl rfl rfl (by decide +kernel) ⟨Nat.le_of_ble_eq_true rfl, Nat.le_of_ble_eq_true rfl⟩) ⟨kP.blind, k_recv hE hP (ci := 6) (q0 := 0) rfl rfl, k_pre hP hD hS hE hA⟩ rfl rfl hl.1 rfl (lv_room (Nat.le_of_ble_eq_true rfl)) dX6_put_89 ⟨Nat.zero_le _, Nat.zero_le _⟩) hD hS hA (fun H locs hP hD hS => ?_)
          obtain rfl := o_ret hf
          exact k_iret hx hb hr hP hD hS (Nat.zero_le _) (Nat.zero_le _) hlocks dX6_put_92
        · have hf := o_in c74 hf
          refine lv_aload_n hx hb dX6_put_77 rfl (lv_at hl 1 rfl) ?_
          refine lv_iconst (v := 4) hx hb dX6_put_78 (by decide) ?_
          refine lv_iload_n hx hb dX6_put_79 rfl (lv_at hl 2 rfl) ?_
          refine lv_iadd hx hb dX6_put_80 ?_
          refine lv_iload_n hx hb dX6_put_81 rfl (lv_at hl 3 rfl) ?_
          obtain ⟨r82, h82r, hf⟩ := o_bs hf
          refine k_goi (va_runV (As := [.int (4 + a1), .int a2]) (rest := []) ⟨hx, hb, hml, hown, hts⟩ (zX6_puts l D cy sa q rest H.size u (4 + a1) a2 r82 h82r) (cwV 2 hts (gB_V wB164 wB165 wB166 wB5 wB167) rfl rfl rfl (by decide +kernel) ⟨Nat.le_of_ble_eq_true rfl, Nat.le_of_ble_eq_true rfl⟩) ⟨kP.blind, k_recv hE hP (ci := 6) (q0 := 0) rfl rfl, k_pre hP hD hS hE hA⟩ rfl rfl hl.1 rfl (lv_room (Nat.le_of_ble_eq_true rfl)) dX6_put_82 ⟨Nat.zero_le _, Nat.zero_le _⟩) hD hS hA (fun H locs hP hD hS => ?_)
          refine lv_goto (tgt := 92) hx hb dX6_put_85 (by decide) ?_
          obtain rfl := o_ret hf
          exact k_iret hx hb hr hP hD hS (Nat.zero_le _) (Nat.zero_le _) hlocks dX6_put_92
    · have hf := o_ip c18 hf
      refine lv_iload_n hx hb dX6_put_21 rfl (lv_at hl 2 rfl) ?_
      refine lv_i2l (v := (a2.toInt64)) hx hb dX6_put_22 rfl ?_
      refine lv_lconst (v := 1) hx hb dX6_put_23 (by decide) ?_
      refine lv_ldc2 (v := 40) hx hb hown (hts _ wB346) dX6_put_24 ?_
      obtain ⟨r27, h27r, hf⟩ := o_bs hf
      refine k_goi (va_runS (As := [.long (a2.toInt64), .long 1, .long 40]) (rest := []) ⟨hx, hb, hml, hown, hts⟩ (zX6_in l D cy sa (WM q cy u ++ rest) H.size (a2.toInt64) 1 40  r27  h27r) (va_cwS 3 hts (gB_S wB141 wB142 wB5 wB143) rfl rfl rfl (by decide +kernel) ⟨Nat.le_of_ble_eq_true rfl, Nat.le_of_ble_eq_true rfl⟩) ⟨kP.blind, k_pre hP hD hS hE hA⟩ rfl rfl hl.1 rfl (lv_room (Nat.le_of_ble_eq_true rfl)) dX6_put_27 ⟨Nat.zero_le _, Nat.zero_le _⟩) hD hS hA (fun H locs hP hD hS => ?_)
      refine lv_goto (tgt := 72) hx hb dX6_put_30 (by decide) ?_
      refine lv_istore_n (lv' := [(3, .int r27), (0, .ref (q 0)), (1, .int a1), (2, .int a2)]) hx hb dX6_put_72 rfl hl (by decide) rfl (fun ls hl => ?_)
      refine lv_iload_n hx hb dX6_put_73 rfl (lv_at hl 0 rfl) ?_
      refine lv_if_eq (tgt := 88) hx hb dX6_put_74 (by decide) (fun c74 => ?_) (fun c74 => ?_)
      · have hf := o_ip c74 hf
        refine lv_aload_n hx hb dX6_put_88 rfl (lv_at hl 1 rfl) ?_
        obtain ⟨r89, h89r, hf⟩ := o_bs hf
        refine k_goi (va_runV (As := []) (rest := []) ⟨hx, hb, hml, hown, hts⟩ (zX6_bad l D cy sa q rest H.size u  r89 h89r) (cwV 0 hts (gB_V wB144 wB145 wB146 wB5 wB147) rfl rfl rfl (by decide +kernel) ⟨Nat.le_of_ble_eq_true rfl, Nat.le_of_ble_eq_true rfl⟩) ⟨kP.blind, k_recv hE hP (ci := 6) (q0 := 0) rfl rfl, k_pre hP hD hS hE hA⟩ rfl rfl hl.1 rfl (lv_room (Nat.le_of_ble_eq_true rfl)) dX6_put_89 ⟨Nat.zero_le _, Nat.zero_le _⟩) hD hS hA (fun H locs hP hD hS => ?_)
        obtain rfl := o_ret hf
        exact k_iret hx hb hr hP hD hS (Nat.zero_le _) (Nat.zero_le _) hlocks dX6_put_92
      · have hf := o_in c74 hf
        refine lv_aload_n hx hb dX6_put_77 rfl (lv_at hl 1 rfl) ?_
        refine lv_iconst (v := 4) hx hb dX6_put_78 (by decide) ?_
        refine lv_iload_n hx hb dX6_put_79 rfl (lv_at hl 2 rfl) ?_
        refine lv_iadd hx hb dX6_put_80 ?_
        refine lv_iload_n hx hb dX6_put_81 rfl (lv_at hl 3 rfl) ?_
        obtain ⟨r82, h82r, hf⟩ := o_bs hf
        refine k_goi (va_runV (As := [.int (4 + a1), .int a2]) (rest := []) ⟨hx, hb, hml, hown, hts⟩ (zX6_puts l D cy sa q rest H.size u (4 + a1) a2 r82 h82r) (cwV 2 hts (gB_V wB164 wB165 wB166 wB5 wB167) rfl rfl rfl (by decide +kernel) ⟨Nat.le_of_ble_eq_true rfl, Nat.le_of_ble_eq_true rfl⟩) ⟨kP.blind, k_recv hE hP (ci := 6) (q0 := 0) rfl rfl, k_pre hP hD hS hE hA⟩ rfl rfl hl.1 rfl (lv_room (Nat.le_of_ble_eq_true rfl)) dX6_put_82 ⟨Nat.zero_le _, Nat.zero_le _⟩) hD hS hA (fun H locs hP hD hS => ?_)
        refine lv_goto (tgt := 92) hx hb dX6_put_85 (by decide) ?_
        obtain rfl := o_ret hf
        exact k_iret hx hb hr hP hD hS (Nat.zero_le _) (Nat.zero_le _) hlocks dX6_put_92
  · have hf := o_ip c1 hf
    refine lv_iload_n hx hb dX6_put_4 rfl (lv_at hl 2 rfl) ?_
    refine lv_i2l (v := (a2.toInt64)) hx hb dX6_put_5 rfl ?_
    refine lv_lconst (v := 0) hx hb dX6_put_6 (by decide) ?_
    refine lv_ldc2 (v := 100) hx hb hown (hts _ wB345) dX6_put_7 ?_
    obtain ⟨r10, h10r, hf⟩ := o_bs hf
    refine k_goi (va_runS (As := [.long (a2.toInt64), .long 0, .long 100]) (rest := []) ⟨hx, hb, hml, hown, hts⟩ (zX6_in l D cy sa (WM q cy u ++ rest) H.size (a2.toInt64) 0 100  r10  h10r) (va_cwS 3 hts (gB_S wB141 wB142 wB5 wB143) rfl rfl rfl (by decide +kernel) ⟨Nat.le_of_ble_eq_true rfl, Nat.le_of_ble_eq_true rfl⟩) ⟨kP.blind, k_pre hP hD hS hE hA⟩ rfl rfl hl.1 rfl (lv_room (Nat.le_of_ble_eq_true rfl)) dX6_put_10 ⟨Nat.zero_le _, Nat.zero_le _⟩) hD hS hA (fun H locs hP hD hS => ?_)
    refine lv_goto (tgt := 72) hx hb dX6_put_13 (by decide) ?_
    refine lv_istore_n (lv' := [(3, .int r10), (0, .ref (q 0)), (1, .int a1), (2, .int a2)]) hx hb dX6_put_72 rfl hl (by decide) rfl (fun ls hl => ?_)
    refine lv_iload_n hx hb dX6_put_73 rfl (lv_at hl 0 rfl) ?_
    refine lv_if_eq (tgt := 88) hx hb dX6_put_74 (by decide) (fun c74 => ?_) (fun c74 => ?_)
    · have hf := o_ip c74 hf
      refine lv_aload_n hx hb dX6_put_88 rfl (lv_at hl 1 rfl) ?_
      obtain ⟨r89, h89r, hf⟩ := o_bs hf
      refine k_goi (va_runV (As := []) (rest := []) ⟨hx, hb, hml, hown, hts⟩ (zX6_bad l D cy sa q rest H.size u  r89 h89r) (cwV 0 hts (gB_V wB144 wB145 wB146 wB5 wB147) rfl rfl rfl (by decide +kernel) ⟨Nat.le_of_ble_eq_true rfl, Nat.le_of_ble_eq_true rfl⟩) ⟨kP.blind, k_recv hE hP (ci := 6) (q0 := 0) rfl rfl, k_pre hP hD hS hE hA⟩ rfl rfl hl.1 rfl (lv_room (Nat.le_of_ble_eq_true rfl)) dX6_put_89 ⟨Nat.zero_le _, Nat.zero_le _⟩) hD hS hA (fun H locs hP hD hS => ?_)
      obtain rfl := o_ret hf
      exact k_iret hx hb hr hP hD hS (Nat.zero_le _) (Nat.zero_le _) hlocks dX6_put_92
    · have hf := o_in c74 hf
      refine lv_aload_n hx hb dX6_put_77 rfl (lv_at hl 1 rfl) ?_
      refine lv_iconst (v := 4) hx hb dX6_put_78 (by decide) ?_
      refine lv_iload_n hx hb dX6_put_79 rfl (lv_at hl 2 rfl) ?_
      refine lv_iadd hx hb dX6_put_80 ?_
      refine lv_iload_n hx hb dX6_put_81 rfl (lv_at hl 3 rfl) ?_
      obtain ⟨r82, h82r, hf⟩ := o_bs hf
      refine k_goi (va_runV (As := [.int (4 + a1), .int a2]) (rest := []) ⟨hx, hb, hml, hown, hts⟩ (zX6_puts l D cy sa q rest H.size u (4 + a1) a2 r82 h82r) (cwV 2 hts (gB_V wB164 wB165 wB166 wB5 wB167) rfl rfl rfl (by decide +kernel) ⟨Nat.le_of_ble_eq_true rfl, Nat.le_of_ble_eq_true rfl⟩) ⟨kP.blind, k_recv hE hP (ci := 6) (q0 := 0) rfl rfl, k_pre hP hD hS hE hA⟩ rfl rfl hl.1 rfl (lv_room (Nat.le_of_ble_eq_true rfl)) dX6_put_82 ⟨Nat.zero_le _, Nat.zero_le _⟩) hD hS hA (fun H locs hP hD hS => ?_)
      refine lv_goto (tgt := 92) hx hb dX6_put_85 (by decide) ?_
      obtain rfl := o_ret hf
      exact k_iret hx hb hr hP hD hS (Nat.zero_le _) (Nat.zero_le _) hlocks dX6_put_92
noncomputable def mX6_sign (u : KS) (a1 : Int32) : Option (Int32 × KS) :=
  if a1 = 0 then
  ((mX6_signNow u).bind fun r5 =>
  some (r5, u))
  else
  (if a1 = 1 then
  (some (((gR u 5) ((0 : Int32).toNatClampNeg)), u))
  else
  (if a1 = 2 then
  (some (((gR u 5) ((1 : Int32).toNatClampNeg)), u))
  else
  ((mX6_bad u).bind fun r40 =>
  some (r40.1, r40.2))))
abbrev rmX6_sign : Room := { frames := 2, cells := 0, slots := 0, locals := 42 }
set_option maxRecDepth 100000 in
set_option maxHeartbeats 4000000 in
theorem zX6_sign (l : Launch) (D : va_G) (cy : Nat → ClassId) (sa : Nat → Nat) (q : Nat → Nat) (rest : va_W) (sz : Nat) (u : KS) (a1 : Int32) (res : Int32 × KS) (hf : mX6_sign u a1 = some res) : kMi l yX6_sign (wsK yX6_sign cX6_sign 2 (some .int)) rmX6_sign D cy sa (WM q cy u ++ rest) sz [.ref (q 0), .int a1] res.1 (WM q cy res.2 ++ rest) 0 0 := by
  refine kM_of (Qc := fun A => kQi D A res.1 (WM q cy res.2 ++ rest)) (cc := cX6_sign) (maxL := 2) (ret := (some .int)) (by decide) (Nat.le_of_ble_eq_true rfl) ?_
  intro p e s m below meth c A hx hb hml hr hts hown hlocks hin hA hP hD hS hE hsz ls hl
  have hown : s.vm.findClass RX6 = some m.cls := hown
  obtain ⟨H, hH0⟩ : ∃ H, H = s.heap := ⟨_, rfl⟩
  obtain ⟨locs, hlocs0⟩ : ∃ locs : List Loc, locs = [] := ⟨_, rfl⟩
  have hP : va_P D vwCl (WM q cy u ++ rest) H := by rw [hH0]; exact hP
  have hS : va_S A s.heap H locs := by rw [hH0, hlocs0]; exact hS
  have hl : lv_has ls 2 [(0, .ref (q 0)), (1, .int a1)] := hl
  suffices hgoal : W p l e rmX6_sign s m ([.ref (q 0), .int a1] : List Value).toArray below meth c H locs 0 0 (MQ below (kQi D A res.1 (WM q cy res.2 ++ rest)) ([.ref (q 0), .int a1] : List Value).toArray s 0 0 A) (F0 m 0 ls []) by rw [hH0, hlocs0] at hgoal; exact hgoal
  clear hH0 hlocs0
  unfold mX6_sign at hf
  refine lv_iload_n hx hb dX6_sign_0 rfl (lv_at hl 1 rfl) ?_
  refine lv_if_ne (tgt := 11) hx hb dX6_sign_1 (by decide) (fun c1 => ?_) (fun c1 => ?_)
  · have hf := o_in c1 hf
    refine lv_iload_n hx hb dX6_sign_11 rfl (lv_at hl 1 rfl) ?_
    refine lv_iconst (v := 1) hx hb dX6_sign_12 (by decide) ?_
    refine lv_icmp_ne (tgt := 25) hx hb dX6_sign_13 (by decide) (fun c13 => ?_) (fun c13 => ?_)
    · have hf := o_in c13 hf
      refine lv_iload_n hx hb dX6_sign_25 rfl (lv_at hl 1 rfl) ?_
      refine lv_iconst (v := 2) hx hb dX6_sign_26 (by decide) ?_
      refine lv_icmp_ne (tgt := 39) hx hb dX6_sign_27 (by decide) (fun c27 => ?_) (fun c27 => ?_)
      · have hf := o_in c27 hf
        refine lv_aload_n hx hb dX6_sign_39 rfl (lv_at hl 0 rfl) ?_
        obtain ⟨r40, h40r, hf⟩ := o_bs hf
        refine k_goi (va_runV (As := []) (rest := []) ⟨hx, hb, hml, hown, hts⟩ (zX6_bad l D cy sa q rest H.size u  r40 h40r) (cwV 0 hts (gB_V wB144 wB145 wB146 wB5 wB147) rfl rfl rfl (by decide +kernel) ⟨Nat.le_of_ble_eq_true rfl, Nat.le_of_ble_eq_true rfl⟩) ⟨kP.blind, k_recv hE hP (ci := 6) (q0 := 0) rfl rfl, k_pre hP hD hS hE hA⟩ rfl rfl hl.1 rfl (lv_room (Nat.le_of_ble_eq_true rfl)) dX6_sign_40 ⟨Nat.zero_le _, Nat.zero_le _⟩) hD hS hA (fun H locs hP hD hS => ?_)
        obtain rfl := o_ret hf
        exact k_iret hx hb hr hP hD hS (Nat.zero_le _) (Nat.zero_le _) hlocks dX6_sign_43
      · have hf := o_ip c27 hf
        refine lv_aload_n hx hb dX6_sign_30 rfl (lv_at hl 0 rfl) ?_
        refine va_get (ci := 6) (v := .ref (q 6)) (C := RX6) (T := TX6) (N := 26) hx hb hts inlX6 hown hE.1 hP 0 rfl rfl 6 (by decide) (hts _ wB89) (fun _ h9 => h9) rfl dX6_sign_31 ?_
        refine lv_iconst (v := 1) hx hb dX6_sign_34 (by decide) ?_
        refine va_iald (f := (gR u 5)) hx hb hE.1 hP 6 0 rfl rfl (k_in (by decide)) dX6_sign_35 ?_
        refine lv_goto (tgt := 43) hx hb dX6_sign_36 (by decide) ?_
        obtain rfl := o_ret hf
        exact k_iret hx hb hr hP hD hS (Nat.zero_le _) (Nat.zero_le _) hlocks dX6_sign_43
    · have hf := o_ip c13 hf
      refine lv_aload_n hx hb dX6_sign_16 rfl (lv_at hl 0 rfl) ?_
      refine va_get (ci := 6) (v := .ref (q 6)) (C := RX6) (T := TX6) (N := 26) hx hb hts inlX6 hown hE.1 hP 0 rfl rfl 6 (by decide) (hts _ wB89) (fun _ h9 => h9) rfl dX6_sign_17 ?_
      refine lv_iconst (v := 0) hx hb dX6_sign_20 (by decide) ?_
      refine va_iald (f := (gR u 5)) hx hb hE.1 hP 6 0 rfl rfl (k_in (by decide)) dX6_sign_21 ?_
      refine lv_goto (tgt := 43) hx hb dX6_sign_22 (by decide) ?_
      obtain rfl := o_ret hf
      exact k_iret hx hb hr hP hD hS (Nat.zero_le _) (Nat.zero_le _) hlocks dX6_sign_43
  · have hf := o_ip c1 hf
    refine lv_aload_n hx hb dX6_sign_4 rfl (lv_at hl 0 rfl) ?_
    obtain ⟨r5, h5r, hf⟩ := o_bs hf
    refine k_goi (va_runV (As := []) (rest := []) ⟨hx, hb, hml, hown, hts⟩ (zX6_signNow l D cy sa q rest H.size u  r5 h5r) (cwV 0 hts (gB_V wB829 wB830 wB831 wB5 wB832) rfl rfl rfl (by decide +kernel) ⟨Nat.le_of_ble_eq_true rfl, Nat.le_of_ble_eq_true rfl⟩) ⟨kP.blind, k_recv hE hP (ci := 6) (q0 := 0) rfl rfl, k_pre hP hD hS hE hA⟩ rfl rfl hl.1 rfl (lv_room (Nat.le_of_ble_eq_true rfl)) dX6_sign_5 ⟨Nat.zero_le _, Nat.zero_le _⟩) hD hS hA (fun H locs hP hD hS => ?_)
    refine lv_goto (tgt := 43) hx hb dX6_sign_8 (by decide) ?_
    obtain rfl := o_ret hf
    exact k_iret hx hb hr hP hD hS (Nat.zero_le _) (Nat.zero_le _) hlocks dX6_sign_43
noncomputable def mX6_smoke (u : KS) (a1 : Int32) (a2 : Int32) (a3 : Int32) : Option (Int32 × KS) :=
  (mX6_passes u ((gR u 0) ((4 : Int32).toNatClampNeg))).bind fun r7 =>
  if r7.1 = 0 then
  ((mX6_no r7.2).bind fun r14 =>
  some (r14.1, r14.2))
  else
  ((mX6_in (a2.toInt64) 0 3).bind fun r24 =>
  if r24 = 0 then
  ((mX6_bad r7.2).bind fun r63 =>
  some (r63.1, r63.2))
  else
  ((mX6_in (a3.toInt64) (-1) 3).bind fun r38 =>
  if r38 = 0 then
  ((mX6_bad r7.2).bind fun r63 =>
  some (r63.1, r63.2))
  else
  ((mX6_isMinute r7.2 a1).bind fun r46 =>
  if r46 = 0 then
  ((mX6_bad r7.2).bind fun r63 =>
  some (r63.1, r63.2))
  else
  ((mX6_smokeOf r7.2 a1 a2 a3).bind fun r56 =>
  some (r56, r7.2)))))
abbrev rmX6_smoke : Room := { frames := 5, cells := 0, slots := 0, locals := 117 }
set_option maxRecDepth 100000 in
set_option maxHeartbeats 4000000 in
theorem zX6_smoke (l : Launch) (D : va_G) (cy : Nat → ClassId) (sa : Nat → Nat) (q : Nat → Nat) (rest : va_W) (sz : Nat) (u : KS) (a1 : Int32) (a2 : Int32) (a3 : Int32) (res : Int32 × KS) (hf : mX6_smoke u a1 a2 a3 = some res) : kMi l yX6_smoke (wsK yX6_smoke cX6_smoke 4 (some .int)) rmX6_smoke D cy sa (WM q cy u ++ rest) sz [.ref (q 0), .int a1, .int a2, .int a3] res.1 (WM q cy res.2 ++ rest) 0 0 := by
  refine kM_of (Qc := fun A => kQi D A res.1 (WM q cy res.2 ++ rest)) (cc := cX6_smoke) (maxL := 4) (ret := (some .int)) (by decide) (Nat.le_of_ble_eq_true rfl) ?_
  intro p e s m below meth c A hx hb hml hr hts hown hlocks hin hA hP hD hS hE hsz ls hl
  have hown : s.vm.findClass RX6 = some m.cls := hown
  obtain ⟨H, hH0⟩ : ∃ H, H = s.heap := ⟨_, rfl⟩
  obtain ⟨locs, hlocs0⟩ : ∃ locs : List Loc, locs = [] := ⟨_, rfl⟩
  have hP : va_P D vwCl (WM q cy u ++ rest) H := by rw [hH0]; exact hP
  have hS : va_S A s.heap H locs := by rw [hH0, hlocs0]; exact hS
  have hl : lv_has ls 4 [(0, .ref (q 0)), (1, .int a1), (2, .int a2), (3, .int a3)] := hl
  suffices hgoal : W p l e rmX6_smoke s m ([.ref (q 0), .int a1, .int a2, .int a3] : List Value).toArray below meth c H locs 0 0 (MQ below (kQi D A res.1 (WM q cy res.2 ++ rest)) ([.ref (q 0), .int a1, .int a2, .int a3] : List Value).toArray s 0 0 A) (F0 m 0 ls []) by rw [hH0, hlocs0] at hgoal; exact hgoal
  clear hH0 hlocs0
  unfold mX6_smoke at hf
  refine lv_aload_n hx hb dX6_smoke_0 rfl (lv_at hl 0 rfl) ?_
  refine lv_aload_n hx hb dX6_smoke_1 rfl (lv_at hl 0 rfl) ?_
  refine va_get (ci := 6) (v := .ref (q 1)) (C := RX6) (T := TX6) (N := 26) hx hb hts inlX6 hown hE.1 hP 0 rfl rfl 0 (by decide) (hts _ wB83) (fun _ h9 => h9) rfl dX6_smoke_2 ?_
  refine lv_iconst (v := 4) hx hb dX6_smoke_5 (by decide) ?_
  refine va_iald (f := (gR u 0)) hx hb hE.1 hP 1 0 rfl rfl (k_in (by decide)) dX6_smoke_6 ?_
  obtain ⟨r7, h7r, hf⟩ := o_bs hf
  refine k_goi (va_runV (As := [.int ((gR u 0) ((4 : Int32).toNatClampNeg))]) (rest := []) ⟨hx, hb, hml, hown, hts⟩ (zX6_passes l D cy sa q rest H.size u ((gR u 0) ((4 : Int32).toNatClampNeg)) r7 h7r) (cwV 1 hts (gB_V wB386 wB387 wB388 wB5 wB389) rfl rfl rfl (by decide +kernel) ⟨Nat.le_of_ble_eq_true rfl, Nat.le_of_ble_eq_true rfl⟩) ⟨kP.blind, k_recv hE hP (ci := 6) (q0 := 0) rfl rfl, k_pre hP hD hS hE hA⟩ rfl rfl hl.1 rfl (lv_room (Nat.le_of_ble_eq_true rfl)) dX6_smoke_7 ⟨Nat.zero_le _, Nat.zero_le _⟩) hD hS hA (fun H locs hP hD hS => ?_)
  refine lv_if_ne (tgt := 18) hx hb dX6_smoke_10 (by decide) (fun c10 => ?_) (fun c10 => ?_)
  · have hf := o_in c10 hf
    refine lv_iload_n hx hb dX6_smoke_18 rfl (lv_at hl 2 rfl) ?_
    refine lv_i2l (v := (a2.toInt64)) hx hb dX6_smoke_19 rfl ?_
    refine lv_lconst (v := 0) hx hb dX6_smoke_20 (by decide) ?_
    refine lv_ldc2 (v := 3) hx hb hown (hts _ wB376) dX6_smoke_21 ?_
    obtain ⟨r24, h24r, hf⟩ := o_bs hf
    refine k_goi (va_runS (As := [.long (a2.toInt64), .long 0, .long 3]) (rest := []) ⟨hx, hb, hml, hown, hts⟩ (zX6_in l D cy sa (WM q cy r7.2 ++ rest) H.size (a2.toInt64) 0 3  r24  h24r) (va_cwS 3 hts (gB_S wB141 wB142 wB5 wB143) rfl rfl rfl (by decide +kernel) ⟨Nat.le_of_ble_eq_true rfl, Nat.le_of_ble_eq_true rfl⟩) ⟨kP.blind, k_pre hP hD hS hE hA⟩ rfl rfl hl.1 rfl (lv_room (Nat.le_of_ble_eq_true rfl)) dX6_smoke_24 ⟨Nat.zero_le _, Nat.zero_le _⟩) hD hS hA (fun H locs hP hD hS => ?_)
    refine lv_if_eq (tgt := 62) hx hb dX6_smoke_27 (by decide) (fun c27 => ?_) (fun c27 => ?_)
    · have hf := o_ip c27 hf
      refine lv_aload_n hx hb dX6_smoke_62 rfl (lv_at hl 0 rfl) ?_
      obtain ⟨r63, h63r, hf⟩ := o_bs hf
      refine k_goi (va_runV (As := []) (rest := []) ⟨hx, hb, hml, hown, hts⟩ (zX6_bad l D cy sa q rest H.size r7.2  r63 h63r) (cwV 0 hts (gB_V wB144 wB145 wB146 wB5 wB147) rfl rfl rfl (by decide +kernel) ⟨Nat.le_of_ble_eq_true rfl, Nat.le_of_ble_eq_true rfl⟩) ⟨kP.blind, k_recv hE hP (ci := 6) (q0 := 0) rfl rfl, k_pre hP hD hS hE hA⟩ rfl rfl hl.1 rfl (lv_room (Nat.le_of_ble_eq_true rfl)) dX6_smoke_63 ⟨Nat.zero_le _, Nat.zero_le _⟩) hD hS hA (fun H locs hP hD hS => ?_)
      obtain rfl := o_ret hf
      exact k_iret hx hb hr hP hD hS (Nat.zero_le _) (Nat.zero_le _) hlocks dX6_smoke_66
    · have hf := o_in c27 hf
      refine lv_iload_n hx hb dX6_smoke_30 rfl (lv_at hl 3 rfl) ?_
      refine lv_i2l (v := (a3.toInt64)) hx hb dX6_smoke_31 rfl ?_
      refine lv_ldc2 (v := (-1)) hx hb hown (hts _ wB461) dX6_smoke_32 ?_
      refine lv_ldc2 (v := 3) hx hb hown (hts _ wB376) dX6_smoke_35 ?_
      obtain ⟨r38, h38r, hf⟩ := o_bs hf
      refine k_goi (va_runS (As := [.long (a3.toInt64), .long (-1), .long 3]) (rest := []) ⟨hx, hb, hml, hown, hts⟩ (zX6_in l D cy sa (WM q cy r7.2 ++ rest) H.size (a3.toInt64) (-1) 3  r38  h38r) (va_cwS 3 hts (gB_S wB141 wB142 wB5 wB143) rfl rfl rfl (by decide +kernel) ⟨Nat.le_of_ble_eq_true rfl, Nat.le_of_ble_eq_true rfl⟩) ⟨kP.blind, k_pre hP hD hS hE hA⟩ rfl rfl hl.1 rfl (lv_room (Nat.le_of_ble_eq_true rfl)) dX6_smoke_38 ⟨Nat.zero_le _, Nat.zero_le _⟩) hD hS hA (fun H locs hP hD hS => ?_)
      refine lv_if_eq (tgt := 62) hx hb dX6_smoke_41 (by decide) (fun c41 => ?_) (fun c41 => ?_)
      · have hf := o_ip c41 hf
        refine lv_aload_n hx hb dX6_smoke_62 rfl (lv_at hl 0 rfl) ?_
        obtain ⟨r63, h63r, hf⟩ := o_bs hf
        refine k_goi (va_runV (As := []) (rest := []) ⟨hx, hb, hml, hown, hts⟩ (zX6_bad l D cy sa q rest H.size r7.2  r63 h63r) (cwV 0 hts (gB_V wB144 wB145 wB146 wB5 wB147) rfl rfl rfl (by decide +kernel) ⟨Nat.le_of_ble_eq_true rfl, Nat.le_of_ble_eq_true rfl⟩) ⟨kP.blind, k_recv hE hP (ci := 6) (q0 := 0) rfl rfl, k_pre hP hD hS hE hA⟩ rfl rfl hl.1 rfl (lv_room (Nat.le_of_ble_eq_true rfl)) dX6_smoke_63 ⟨Nat.zero_le _, Nat.zero_le _⟩) hD hS hA (fun H locs hP hD hS => ?_)
        obtain rfl := o_ret hf
        exact k_iret hx hb hr hP hD hS (Nat.zero_le _) (Nat.zero_le _) hlocks dX6_smoke_66
      · have hf := o_in c41 hf
        refine lv_aload_n hx hb dX6_smoke_44 rfl (lv_at hl 0 rfl) ?_
        refine lv_iload_n hx hb dX6_smoke_45 rfl (lv_at hl 1 rfl) ?_
        obtain ⟨r46, h46r, hf⟩ := o_bs hf
        refine k_goi (va_runV (As := [.int a1]) (rest := []) ⟨hx, hb, hml, hown, hts⟩ (zX6_isMinute l D cy sa q rest H.size r7.2 a1 r46 h46r) (cwV 1 hts (gB_V wB438 wB439 wB440 wB5 wB441) rfl rfl rfl (by decide +kernel) ⟨Nat.le_of_ble_eq_true rfl, Nat.le_of_ble_eq_true rfl⟩) ⟨kP.blind, k_recv hE hP (ci := 6) (q0 := 0) rfl rfl, k_pre hP hD hS hE hA⟩ rfl rfl hl.1 rfl (lv_room (Nat.le_of_ble_eq_true rfl)) dX6_smoke_46 ⟨Nat.zero_le _, Nat.zero_le _⟩) hD hS hA (fun H locs hP hD hS => ?_)
        refine lv_if_eq (tgt := 62) hx hb dX6_smoke_49 (by decide) (fun c49 => ?_) (fun c49 => ?_)
        · have hf := o_ip c49 hf
          refine lv_aload_n hx hb dX6_smoke_62 rfl (lv_at hl 0 rfl) ?_
          obtain ⟨r63, h63r, hf⟩ := o_bs hf
          refine k_goi (va_runV (As := []) (rest := []) ⟨hx, hb, hml, hown, hts⟩ (zX6_bad l D cy sa q rest H.size r7.2  r63 h63r) (cwV 0 hts (gB_V wB144 wB145 wB146 wB5 wB147) rfl rfl rfl (by decide +kernel) ⟨Nat.le_of_ble_eq_true rfl, Nat.le_of_ble_eq_true rfl⟩) ⟨kP.blind, k_recv hE hP (ci := 6) (q0 := 0) rfl rfl, k_pre hP hD hS hE hA⟩ rfl rfl hl.1 rfl (lv_room (Nat.le_of_ble_eq_true rfl)) dX6_smoke_63 ⟨Nat.zero_le _, Nat.zero_le _⟩) hD hS hA (fun H locs hP hD hS => ?_)
          obtain rfl := o_ret hf
          exact k_iret hx hb hr hP hD hS (Nat.zero_le _) (Nat.zero_le _) hlocks dX6_smoke_66
        · have hf := o_in c49 hf
          refine lv_aload_n hx hb dX6_smoke_52 rfl (lv_at hl 0 rfl) ?_
          refine lv_iload_n hx hb dX6_smoke_53 rfl (lv_at hl 1 rfl) ?_
          refine lv_iload_n hx hb dX6_smoke_54 rfl (lv_at hl 2 rfl) ?_
          refine lv_iload_n hx hb dX6_smoke_55 rfl (lv_at hl 3 rfl) ?_
          obtain ⟨r56, h56r, hf⟩ := o_bs hf
          refine k_goi (va_runV (As := [.int a1, .int a2, .int a3]) (rest := []) ⟨hx, hb, hml, hown, hts⟩ (zX6_smokeOf l D cy sa q rest H.size r7.2 a1 a2 a3 r56 h56r) (cwV 3 hts (gB_V wB462 wB463 wB464 wB5 wB465) rfl rfl rfl (by decide +kernel) ⟨Nat.le_of_ble_eq_true rfl, Nat.le_of_ble_eq_true rfl⟩) ⟨kP.blind, k_recv hE hP (ci := 6) (q0 := 0) rfl rfl, k_pre hP hD hS hE hA⟩ rfl rfl hl.1 rfl (lv_room (Nat.le_of_ble_eq_true rfl)) dX6_smoke_56 ⟨Nat.zero_le _, Nat.zero_le _⟩) hD hS hA (fun H locs hP hD hS => ?_)
          refine lv_goto (tgt := 66) hx hb dX6_smoke_59 (by decide) ?_
          obtain rfl := o_ret hf
          exact k_iret hx hb hr hP hD hS (Nat.zero_le _) (Nat.zero_le _) hlocks dX6_smoke_66
  · have hf := o_ip c10 hf
    refine lv_aload_n hx hb dX6_smoke_13 rfl (lv_at hl 0 rfl) ?_
    obtain ⟨r14, h14r, hf⟩ := o_bs hf
    refine k_goi (va_runV (As := []) (rest := []) ⟨hx, hb, hml, hown, hts⟩ (zX6_no l D cy sa q rest H.size r7.2  r14 h14r) (cwV 0 hts (gB_V wB328 wB329 wB330 wB5 wB331) rfl rfl rfl (by decide +kernel) ⟨Nat.le_of_ble_eq_true rfl, Nat.le_of_ble_eq_true rfl⟩) ⟨kP.blind, k_recv hE hP (ci := 6) (q0 := 0) rfl rfl, k_pre hP hD hS hE hA⟩ rfl rfl hl.1 rfl (lv_room (Nat.le_of_ble_eq_true rfl)) dX6_smoke_14 ⟨Nat.zero_le _, Nat.zero_le _⟩) hD hS hA (fun H locs hP hD hS => ?_)
    obtain rfl := o_ret hf
    exact k_iret hx hb hr hP hD hS (Nat.zero_le _) (Nat.zero_le _) hlocks dX6_smoke_17
noncomputable def mX6_status (u : KS) (a1 : Int32) : Option (Int32 × KS) :=
  (mX6_in (a1.toInt64) 0 2).bind fun r6 =>
  if r6 = 0 then
  ((mX6_refuses u 0 (-1)).bind fun r24 =>
  some (r24.1, r24.2))
  else
  (gd (inb a1 3) (some (((gR u 3) (a1.toNatClampNeg)), u)))
abbrev rmX6_status : Room := { frames := 1, cells := 0, slots := 0, locals := 25 }
set_option maxRecDepth 100000 in
set_option maxHeartbeats 4000000 in
theorem zX6_status (l : Launch) (D : va_G) (cy : Nat → ClassId) (sa : Nat → Nat) (q : Nat → Nat) (rest : va_W) (sz : Nat) (u : KS) (a1 : Int32) (res : Int32 × KS) (hf : mX6_status u a1 = some res) : kMi l yX6_status (wsK yX6_status cX6_status 2 (some .int)) rmX6_status D cy sa (WM q cy u ++ rest) sz [.ref (q 0), .int a1] res.1 (WM q cy res.2 ++ rest) 0 0 := by
  refine kM_of (Qc := fun A => kQi D A res.1 (WM q cy res.2 ++ rest)) (cc := cX6_status) (maxL := 2) (ret := (some .int)) (by decide) (Nat.le_of_ble_eq_true rfl) ?_
  intro p e s m below meth c A hx hb hml hr hts hown hlocks hin hA hP hD hS hE hsz ls hl
  have hown : s.vm.findClass RX6 = some m.cls := hown
  obtain ⟨H, hH0⟩ : ∃ H, H = s.heap := ⟨_, rfl⟩
  obtain ⟨locs, hlocs0⟩ : ∃ locs : List Loc, locs = [] := ⟨_, rfl⟩
  have hP : va_P D vwCl (WM q cy u ++ rest) H := by rw [hH0]; exact hP
  have hS : va_S A s.heap H locs := by rw [hH0, hlocs0]; exact hS
  have hl : lv_has ls 2 [(0, .ref (q 0)), (1, .int a1)] := hl
  suffices hgoal : W p l e rmX6_status s m ([.ref (q 0), .int a1] : List Value).toArray below meth c H locs 0 0 (MQ below (kQi D A res.1 (WM q cy res.2 ++ rest)) ([.ref (q 0), .int a1] : List Value).toArray s 0 0 A) (F0 m 0 ls []) by rw [hH0, hlocs0] at hgoal; exact hgoal
  clear hH0 hlocs0
  unfold mX6_status at hf
  refine lv_iload_n hx hb dX6_status_0 rfl (lv_at hl 1 rfl) ?_
  refine lv_i2l (v := (a1.toInt64)) hx hb dX6_status_1 rfl ?_
  refine lv_lconst (v := 0) hx hb dX6_status_2 (by decide) ?_
  refine lv_ldc2 (v := 2) hx hb hown (hts _ wB485) dX6_status_3 ?_
  obtain ⟨r6, h6r, hf⟩ := o_bs hf
  refine k_goi (va_runS (As := [.long (a1.toInt64), .long 0, .long 2]) (rest := []) ⟨hx, hb, hml, hown, hts⟩ (zX6_in l D cy sa (WM q cy u ++ rest) H.size (a1.toInt64) 0 2  r6  h6r) (va_cwS 3 hts (gB_S wB141 wB142 wB5 wB143) rfl rfl rfl (by decide +kernel) ⟨Nat.le_of_ble_eq_true rfl, Nat.le_of_ble_eq_true rfl⟩) ⟨kP.blind, k_pre hP hD hS hE hA⟩ rfl rfl hl.1 rfl (lv_room (Nat.le_of_ble_eq_true rfl)) dX6_status_6 ⟨Nat.zero_le _, Nat.zero_le _⟩) hD hS hA (fun H locs hP hD hS => ?_)
  refine lv_if_eq (tgt := 21) hx hb dX6_status_9 (by decide) (fun c9 => ?_) (fun c9 => ?_)
  · have hf := o_ip c9 hf
    refine lv_aload_n hx hb dX6_status_21 rfl (lv_at hl 0 rfl) ?_
    refine lv_iconst (v := 0) hx hb dX6_status_22 (by decide) ?_
    refine lv_iconst (v := (-1)) hx hb dX6_status_23 (by decide) ?_
    obtain ⟨r24, h24r, hf⟩ := o_bs hf
    refine k_goi (va_runV (As := [.int 0, .int (-1)]) (rest := []) ⟨hx, hb, hml, hown, hts⟩ (zX6_refuses l D cy sa q rest H.size u 0 (-1) r24 h24r) (cwV 2 hts (gB_V wB148 wB149 wB150 wB5 wB151) rfl rfl rfl (by decide +kernel) ⟨Nat.le_of_ble_eq_true rfl, Nat.le_of_ble_eq_true rfl⟩) ⟨kP.blind, k_recv hE hP (ci := 6) (q0 := 0) rfl rfl, k_pre hP hD hS hE hA⟩ rfl rfl hl.1 rfl (lv_room (Nat.le_of_ble_eq_true rfl)) dX6_status_24 ⟨Nat.zero_le _, Nat.zero_le _⟩) hD hS hA (fun H locs hP hD hS => ?_)
    obtain rfl := o_ret hf
    exact k_iret hx hb hr hP hD hS (Nat.zero_le _) (Nat.zero_le _) hlocks dX6_status_27
  · have hf := o_in c9 hf
    refine lv_aload_n hx hb dX6_status_12 rfl (lv_at hl 0 rfl) ?_
    refine va_get (ci := 6) (v := .ref (q 4)) (C := RX6) (T := TX6) (N := 26) hx hb hts inlX6 hown hE.1 hP 0 rfl rfl 3 (by decide) (hts _ wB87) (fun _ h9 => h9) rfl dX6_status_13 ?_
    refine lv_iload_n hx hb dX6_status_16 rfl (lv_at hl 1 rfl) ?_
    obtain ⟨hg17, hf⟩ := gd_s hf
    refine va_iald (f := (gR u 3)) hx hb hE.1 hP 4 0 rfl rfl hg17 dX6_status_17 ?_
    refine lv_goto (tgt := 27) hx hb dX6_status_18 (by decide) ?_
    obtain rfl := o_ret hf
    exact k_iret hx hb hr hP hD hS (Nat.zero_le _) (Nat.zero_le _) hlocks dX6_status_27
noncomputable def mX6_takes_s49 (u : KS) (c1 : Int32) (c2 : Int32) (c3 : Int32) (c4 : Int32) (c5 : Int32) (s49 : Int32 × Int32 × Int32) : Option (((Int32 × Int32)) ⊕ (Int32 × Int32 × Int32)) :=
  if ((gR u 0) ((2 : Int32).toNatClampNeg)) ≤ s49.2.2 then
  (some (.inl (s49.1, s49.2.1)))
  else
  (gd (inb (60 + (3 * s49.2.2)) 200) (gd (inb ((60 + (3 * s49.2.2)) + 1) 200) (gd (inb ((60 + (3 * s49.2.2)) + 2) 200) (some (.inr ((s49.1 + (((c5 >>> (s49.2.2 &&& 31)) &&& 1) * ((gR u 0) ((60 + (3 * s49.2.2)).toNatClampNeg)))), (s49.2.1 + ((((c5 >>> (s49.2.2 &&& 31)) &&& 1) * ((gR u 0) (((60 + (3 * s49.2.2)) + 1).toNatClampNeg))) * ((gR u 0) (((60 + (3 * s49.2.2)) + 2).toNatClampNeg)))), (s49.2.2 + 1)))))))
noncomputable def mX6_takes_s27 (u : KS) (c1 : Int32) (s27 : Int32 × Int32 × Int32 × Int32) : Option ((Int32) ⊕ (Int32 × Int32 × Int32 × Int32)) :=
  if (((1 : Int32) <<< (((gR u 0) ((2 : Int32).toNatClampNeg)) &&& 31)) : Int32) ≤ s27.2.2.2 then
  (some (.inl s27.1))
  else
  ((lpF (mX6_takes_s49 u c1 s27.1 s27.2.1 s27.2.2.1 s27.2.2.2) (0, 0, 0)).bind fun e49 =>
  if c1 < e49.1 then
  (some (.inr (s27.1, s27.2.1, s27.2.2.1, (s27.2.2.2 + 1))))
  else
  (if s27.2.1 < e49.2 then
  (some (.inr (s27.2.2.2, e49.2, e49.1, (s27.2.2.2 + 1))))
  else
  (if e49.2 = s27.2.1 then
  (if s27.2.2.1 ≤ e49.1 then
  (some (.inr (s27.1, s27.2.1, s27.2.2.1, (s27.2.2.2 + 1))))
  else
  (some (.inr (s27.2.2.2, e49.2, e49.1, (s27.2.2.2 + 1)))))
  else
  (some (.inr (s27.1, s27.2.1, s27.2.2.1, (s27.2.2.2 + 1)))))))
noncomputable def mX6_takes (u : KS) (a1 : Int32) : Option (Int32 × KS) :=
  (mX6_in (a1.toInt64) 0 999).bind fun r6 =>
  if r6 = 0 then
  ((mX6_bad u).bind fun r13 =>
  some (r13.1, r13.2))
  else
  ((lpF (mX6_takes_s27 u a1) (0, 0, 0, 1)).bind fun e27 =>
  some (e27, u))
abbrev rmX6_takes : Room := { frames := 2, cells := 0, slots := 0, locals := 42 }
set_option maxRecDepth 100000 in
set_option maxHeartbeats 4000000 in
theorem zX6_takes (l : Launch) (D : va_G) (cy : Nat → ClassId) (sa : Nat → Nat) (q : Nat → Nat) (rest : va_W) (sz : Nat) (u : KS) (a1 : Int32) (res : Int32 × KS) (hf : mX6_takes u a1 = some res) : kMi l yX6_takes (wsK yX6_takes cX6_takes 10 (some .int)) rmX6_takes D cy sa (WM q cy u ++ rest) sz [.ref (q 0), .int a1] res.1 (WM q cy res.2 ++ rest) 0 0 := by
  refine kM_of (Qc := fun A => kQi D A res.1 (WM q cy res.2 ++ rest)) (cc := cX6_takes) (maxL := 10) (ret := (some .int)) (by decide) (Nat.le_of_ble_eq_true rfl) ?_
  intro p e s m below meth c A hx hb hml hr hts hown hlocks hin hA hP hD hS hE hsz ls hl
  have hown : s.vm.findClass RX6 = some m.cls := hown
  obtain ⟨H, hH0⟩ : ∃ H, H = s.heap := ⟨_, rfl⟩
  obtain ⟨locs, hlocs0⟩ : ∃ locs : List Loc, locs = [] := ⟨_, rfl⟩
  have hP : va_P D vwCl (WM q cy u ++ rest) H := by rw [hH0]; exact hP
  have hS : va_S A s.heap H locs := by rw [hH0, hlocs0]; exact hS
  have hl : lv_has ls 10 [(0, .ref (q 0)), (1, .int a1)] := hl
  suffices hgoal : W p l e rmX6_takes s m ([.ref (q 0), .int a1] : List Value).toArray below meth c H locs 0 0 (MQ below (kQi D A res.1 (WM q cy res.2 ++ rest)) ([.ref (q 0), .int a1] : List Value).toArray s 0 0 A) (F0 m 0 ls []) by rw [hH0, hlocs0] at hgoal; exact hgoal
  clear hH0 hlocs0
  unfold mX6_takes at hf
  refine lv_iload_n hx hb dX6_takes_0 rfl (lv_at hl 1 rfl) ?_
  refine lv_i2l (v := (a1.toInt64)) hx hb dX6_takes_1 rfl ?_
  refine lv_lconst (v := 0) hx hb dX6_takes_2 (by decide) ?_
  refine lv_ldc2 (v := 999) hx hb hown (hts _ wB770) dX6_takes_3 ?_
  obtain ⟨r6, h6r, hf⟩ := o_bs hf
  refine k_goi (va_runS (As := [.long (a1.toInt64), .long 0, .long 999]) (rest := []) ⟨hx, hb, hml, hown, hts⟩ (zX6_in l D cy sa (WM q cy u ++ rest) H.size (a1.toInt64) 0 999  r6  h6r) (va_cwS 3 hts (gB_S wB141 wB142 wB5 wB143) rfl rfl rfl (by decide +kernel) ⟨Nat.le_of_ble_eq_true rfl, Nat.le_of_ble_eq_true rfl⟩) ⟨kP.blind, k_pre hP hD hS hE hA⟩ rfl rfl hl.1 rfl (lv_room (Nat.le_of_ble_eq_true rfl)) dX6_takes_6 ⟨Nat.zero_le _, Nat.zero_le _⟩) hD hS hA (fun H locs hP hD hS => ?_)
  refine lv_if_ne (tgt := 17) hx hb dX6_takes_9 (by decide) (fun c9 => ?_) (fun c9 => ?_)
  · have hf := o_in c9 hf
    refine lv_iconst (v := 0) hx hb dX6_takes_17 (by decide) ?_
    refine lv_istore_n (lv' := [(2, .int 0), (0, .ref (q 0)), (1, .int a1)]) hx hb dX6_takes_18 rfl hl (by decide) rfl (fun ls hl => ?_)
    refine lv_iconst (v := 0) hx hb dX6_takes_19 (by decide) ?_
    refine lv_istore_n (lv' := [(3, .int 0), (2, .int 0), (0, .ref (q 0)), (1, .int a1)]) hx hb dX6_takes_20 rfl hl (by decide) rfl (fun ls hl => ?_)
    refine lv_iconst (v := 0) hx hb dX6_takes_21 (by decide) ?_
    refine lv_istore (lv' := [(4, .int 0), (3, .int 0), (2, .int 0), (0, .ref (q 0)), (1, .int a1)]) hx hb dX6_takes_22 hl (by decide) rfl (fun ls hl => ?_)
    refine lv_iconst (v := 1) hx hb dX6_takes_24 (by decide) ?_
    refine lv_istore (lv' := [(5, .int 1), (4, .int 0), (3, .int 0), (2, .int 0), (0, .ref (q 0)), (1, .int a1)]) hx hb dX6_takes_25 hl (by decide) rfl (fun ls hl => ?_)
    have L27 : ∀ (n27v : Nat) (s27 : Int32 × Int32 × Int32 × Int32) (e27 : Int32), lpO (mX6_takes_s27 u a1) n27v s27 = some e27 → ∀ (H : Heap) (locs : List Loc) (ls : Array Slot), va_P D vwCl (WM q cy u ++ rest) H → va_D A (WM q cy u ++ rest) → va_S A s.heap H locs → lv_has ls 10 [(0, .ref (q 0)), (1, .int a1), (2, .int s27.1), (3, .int s27.2.1), (4, .int s27.2.2.1), (5, .int s27.2.2.2)] → (∀ (H : Heap) (locs : List Loc) (ls : Array Slot), va_P D vwCl (WM q cy u ++ rest) H → va_D A (WM q cy u ++ rest) → va_S A s.heap H locs → lv_has ls 10 [(2, .int e27)] → W p l e rmX6_takes s m ([.ref (q 0), .int a1] : List Value).toArray below meth c H locs 0 0 (MQ below (kQi D A res.1 (WM q cy res.2 ++ rest)) ([.ref (q 0), .int a1] : List Value).toArray s 0 0 A) (F0 m 168 ls [])) → W p l e rmX6_takes s m ([.ref (q 0), .int a1] : List Value).toArray below meth c H locs 0 0 (MQ below (kQi D A res.1 (WM q cy res.2 ++ rest)) ([.ref (q 0), .int a1] : List Value).toArray s 0 0 A) (F0 m 27 ls []) := by
      intro n27v
      induction n27v with
      | zero => intro s27 e27 h; exact (lpO_z h).elim
      | succ n27v ih27 =>
        intro s27 e27 h27z H locs ls hP hD hS hl K27_0
        obtain ⟨x27, hf, h27z⟩ := lpO_s h27z
        unfold mX6_takes_s27 at hf
        refine lv_iload hx hb dX6_takes_27 (lv_at hl 5 rfl) ?_
        refine lv_iconst (v := 1) hx hb dX6_takes_29 (by decide) ?_
        refine lv_aload_n hx hb dX6_takes_30 rfl (lv_at hl 0 rfl) ?_
        refine va_get (ci := 6) (v := .ref (q 1)) (C := RX6) (T := TX6) (N := 26) hx hb hts inlX6 hown hE.1 hP 0 rfl rfl 0 (by decide) (hts _ wB83) (fun _ h9 => h9) rfl dX6_takes_31 ?_
        refine lv_iconst (v := 2) hx hb dX6_takes_34 (by decide) ?_
        refine va_iald (f := (gR u 0)) hx hb hE.1 hP 1 0 rfl rfl (k_in (by decide)) dX6_takes_35 ?_
        refine lv_ishl hx hb dX6_takes_36 ?_
        refine lv_icmp_ge (tgt := 168) hx hb dX6_takes_37 (by decide) (fun c37 => ?_) (fun c37 => ?_)
        · have hf := o_ip c37 hf
          obtain rfl := o_ret hf
          obtain rfl := lpK_l h27z
          exact K27_0 _ _ _ hP hD hS (lv_sub hl [2] rfl)
        · have hf := o_in c37 hf
          refine lv_iconst (v := 0) hx hb dX6_takes_40 (by decide) ?_
          refine lv_istore (lv' := [(6, .int 0), (0, .ref (q 0)), (1, .int a1), (2, .int s27.1), (3, .int s27.2.1), (4, .int s27.2.2.1), (5, .int s27.2.2.2)]) hx hb dX6_takes_41 hl (by decide) rfl (fun ls hl => ?_)
          refine lv_iconst (v := 0) hx hb dX6_takes_43 (by decide) ?_
          refine lv_istore (lv' := [(7, .int 0), (6, .int 0), (0, .ref (q 0)), (1, .int a1), (2, .int s27.1), (3, .int s27.2.1), (4, .int s27.2.2.1), (5, .int s27.2.2.2)]) hx hb dX6_takes_44 hl (by decide) rfl (fun ls hl => ?_)
          refine lv_iconst (v := 0) hx hb dX6_takes_46 (by decide) ?_
          refine lv_istore (lv' := [(8, .int 0), (7, .int 0), (6, .int 0), (0, .ref (q 0)), (1, .int a1), (2, .int s27.1), (3, .int s27.2.1), (4, .int s27.2.2.1), (5, .int s27.2.2.2)]) hx hb dX6_takes_47 hl (by decide) rfl (fun ls hl => ?_)
          have L49 : ∀ (n49v : Nat) (s49 : Int32 × Int32 × Int32) (e49 : (Int32 × Int32)), lpO (mX6_takes_s49 u a1 s27.1 s27.2.1 s27.2.2.1 s27.2.2.2) n49v s49 = some e49 → ∀ (H : Heap) (locs : List Loc) (ls : Array Slot), va_P D vwCl (WM q cy u ++ rest) H → va_D A (WM q cy u ++ rest) → va_S A s.heap H locs → lv_has ls 10 [(0, .ref (q 0)), (1, .int a1), (2, .int s27.1), (3, .int s27.2.1), (4, .int s27.2.2.1), (5, .int s27.2.2.2), (6, .int s49.1), (7, .int s49.2.1), (8, .int s49.2.2)] → (∀ (H : Heap) (locs : List Loc) (ls : Array Slot), va_P D vwCl (WM q cy u ++ rest) H → va_D A (WM q cy u ++ rest) → va_S A s.heap H locs → lv_has ls 10 [(0, .ref (q 0)), (1, .int a1), (2, .int s27.1), (3, .int s27.2.1), (4, .int s27.2.2.1), (5, .int s27.2.2.2), (6, .int e49.1), (7, .int e49.2)] → W p l e rmX6_takes s m ([.ref (q 0), .int a1] : List Value).toArray below meth c H locs 0 0 (MQ below (kQi D A res.1 (WM q cy res.2 ++ rest)) ([.ref (q 0), .int a1] : List Value).toArray s 0 0 A) (F0 m 127 ls [])) → W p l e rmX6_takes s m ([.ref (q 0), .int a1] : List Value).toArray below meth c H locs 0 0 (MQ below (kQi D A res.1 (WM q cy res.2 ++ rest)) ([.ref (q 0), .int a1] : List Value).toArray s 0 0 A) (F0 m 49 ls []) := by
            intro n49v
            induction n49v with
            | zero => intro s49 e49 h; exact (lpO_z h).elim
            | succ n49v ih49 =>
              intro s49 e49 h49z H locs ls hP hD hS hl K49_0
              obtain ⟨x49, hf, h49z⟩ := lpO_s h49z
              unfold mX6_takes_s49 at hf
              refine lv_iload hx hb dX6_takes_49 (lv_at hl 8 rfl) ?_
              refine lv_aload_n hx hb dX6_takes_51 rfl (lv_at hl 0 rfl) ?_
              refine va_get (ci := 6) (v := .ref (q 1)) (C := RX6) (T := TX6) (N := 26) hx hb hts inlX6 hown hE.1 hP 0 rfl rfl 0 (by decide) (hts _ wB83) (fun _ h9 => h9) rfl dX6_takes_52 ?_
              refine lv_iconst (v := 2) hx hb dX6_takes_55 (by decide) ?_
              refine va_iald (f := (gR u 0)) hx hb hE.1 hP 1 0 rfl rfl (k_in (by decide)) dX6_takes_56 ?_
              refine lv_icmp_ge (tgt := 127) hx hb dX6_takes_57 (by decide) (fun c57 => ?_) (fun c57 => ?_)
              · have hf := o_ip c57 hf
                obtain rfl := o_ret hf
                obtain rfl := lpK_l h49z
                exact K49_0 _ _ _ hP hD hS (lv_sub hl [0, 1, 2, 3, 4, 5, 6, 7] rfl)
              · have hf := o_in c57 hf
                refine lv_bipush (v := 60) hx hb dX6_takes_60 (by decide) ?_
                refine lv_iconst (v := 3) hx hb dX6_takes_62 (by decide) ?_
                refine lv_iload hx hb dX6_takes_63 (lv_at hl 8 rfl) ?_
                refine lv_imul hx hb dX6_takes_65 ?_
                refine lv_iadd hx hb dX6_takes_66 ?_
                refine lv_istore (lv' := [(9, .int (60 + (3 * s49.2.2))), (0, .ref (q 0)), (1, .int a1), (2, .int s27.1), (3, .int s27.2.1), (4, .int s27.2.2.1), (5, .int s27.2.2.2), (6, .int s49.1), (7, .int s49.2.1), (8, .int s49.2.2)]) hx hb dX6_takes_67 hl (by decide) rfl (fun ls hl => ?_)
                refine lv_iload hx hb dX6_takes_69 (lv_at hl 7 rfl) ?_
                refine lv_iload hx hb dX6_takes_71 (lv_at hl 6 rfl) ?_
                refine lv_iload hx hb dX6_takes_73 (lv_at hl 9 rfl) ?_
                refine lv_ishr hx hb dX6_takes_75 ?_
                refine lv_iconst (v := 1) hx hb dX6_takes_76 (by decide) ?_
                refine lv_iand hx hb dX6_takes_77 ?_
                refine lv_aload_n hx hb dX6_takes_78 rfl (lv_at hl 1 rfl) ?_
                refine va_get (ci := 6) (v := .ref (q 1)) (C := RX6) (T := TX6) (N := 26) hx hb hts inlX6 hown hE.1 hP 0 rfl rfl 0 (by decide) (hts _ wB83) (fun _ h9 => h9) rfl dX6_takes_79 ?_
                refine lv_iload hx hb dX6_takes_82 (lv_at hl 0 rfl) ?_
                obtain ⟨hg84, hf⟩ := gd_s hf
                refine va_iald (f := (gR u 0)) hx hb hE.1 hP 1 0 rfl rfl hg84 dX6_takes_84 ?_
                refine lv_imul hx hb dX6_takes_85 ?_
                refine lv_iadd hx hb dX6_takes_86 ?_
                refine lv_istore (lv' := [(6, .int (s49.1 + (((s27.2.2.2 >>> (s49.2.2 &&& 31)) &&& 1) * ((gR u 0) ((60 + (3 * s49.2.2)).toNatClampNeg))))), (9, .int (60 + (3 * s49.2.2))), (0, .ref (q 0)), (1, .int a1), (2, .int s27.1), (3, .int s27.2.1), (4, .int s27.2.2.1), (5, .int s27.2.2.2), (7, .int s49.2.1), (8, .int s49.2.2)]) hx hb dX6_takes_87 hl (by decide) rfl (fun ls hl => ?_)
                refine lv_iload hx hb dX6_takes_89 (lv_at hl 8 rfl) ?_
                refine lv_iload hx hb dX6_takes_91 (lv_at hl 7 rfl) ?_
                refine lv_iload hx hb dX6_takes_93 (lv_at hl 9 rfl) ?_
                refine lv_ishr hx hb dX6_takes_95 ?_
                refine lv_iconst (v := 1) hx hb dX6_takes_96 (by decide) ?_
                refine lv_iand hx hb dX6_takes_97 ?_
                refine lv_aload_n hx hb dX6_takes_98 rfl (lv_at hl 2 rfl) ?_
                refine va_get (ci := 6) (v := .ref (q 1)) (C := RX6) (T := TX6) (N := 26) hx hb hts inlX6 hown hE.1 hP 0 rfl rfl 0 (by decide) (hts _ wB83) (fun _ h9 => h9) rfl dX6_takes_99 ?_
                refine lv_iload hx hb dX6_takes_102 (lv_at hl 1 rfl) ?_
                refine lv_iconst (v := 1) hx hb dX6_takes_104 (by decide) ?_
                refine lv_iadd hx hb dX6_takes_105 ?_
                obtain ⟨hg106, hf⟩ := gd_s hf
                refine va_iald (f := (gR u 0)) hx hb hE.1 hP 1 0 rfl rfl hg106 dX6_takes_106 ?_
                refine lv_imul hx hb dX6_takes_107 ?_
                refine lv_aload_n hx hb dX6_takes_108 rfl (lv_at hl 2 rfl) ?_
                refine va_get (ci := 6) (v := .ref (q 1)) (C := RX6) (T := TX6) (N := 26) hx hb hts inlX6 hown hE.1 hP 0 rfl rfl 0 (by decide) (hts _ wB83) (fun _ h9 => h9) rfl dX6_takes_109 ?_
                refine lv_iload hx hb dX6_takes_112 (lv_at hl 1 rfl) ?_
                refine lv_iconst (v := 2) hx hb dX6_takes_114 (by decide) ?_
                refine lv_iadd hx hb dX6_takes_115 ?_
                obtain ⟨hg116, hf⟩ := gd_s hf
                refine va_iald (f := (gR u 0)) hx hb hE.1 hP 1 0 rfl rfl hg116 dX6_takes_116 ?_
                refine lv_imul hx hb dX6_takes_117 ?_
                refine lv_iadd hx hb dX6_takes_118 ?_
                refine lv_istore (lv' := [(7, .int (s49.2.1 + ((((s27.2.2.2 >>> (s49.2.2 &&& 31)) &&& 1) * ((gR u 0) (((60 + (3 * s49.2.2)) + 1).toNatClampNeg))) * ((gR u 0) (((60 + (3 * s49.2.2)) + 2).toNatClampNeg))))), (6, .int (s49.1 + (((s27.2.2.2 >>> (s49.2.2 &&& 31)) &&& 1) * ((gR u 0) ((60 + (3 * s49.2.2)).toNatClampNeg))))), (9, .int (60 + (3 * s49.2.2))), (0, .ref (q 0)), (1, .int a1), (2, .int s27.1), (3, .int s27.2.1), (4, .int s27.2.2.1), (5, .int s27.2.2.2), (8, .int s49.2.2)]) hx hb dX6_takes_119 hl (by decide) rfl (fun ls hl => ?_)
                refine lv_iinc (v := (s49.2.2 + 1)) (lv' := [(8, .int (s49.2.2 + 1)), (7, .int (s49.2.1 + ((((s27.2.2.2 >>> (s49.2.2 &&& 31)) &&& 1) * ((gR u 0) (((60 + (3 * s49.2.2)) + 1).toNatClampNeg))) * ((gR u 0) (((60 + (3 * s49.2.2)) + 2).toNatClampNeg))))), (6, .int (s49.1 + (((s27.2.2.2 >>> (s49.2.2 &&& 31)) &&& 1) * ((gR u 0) ((60 + (3 * s49.2.2)).toNatClampNeg))))), (9, .int (60 + (3 * s49.2.2))), (0, .ref (q 0)), (1, .int a1), (2, .int s27.1), (3, .int s27.2.1), (4, .int s27.2.2.1), (5, .int s27.2.2.2)]) hx hb dX6_takes_121 hl (k := 9) rfl (by rfl) (by decide) rfl (fun ls hl => ?_)
                refine lv_goto (tgt := 49) hx hb dX6_takes_124 (by decide) ?_
                obtain rfl := o_ret hf
                exact ih49 _ _ (lpK_r h49z) _ _ _ hP hD hS (lv_sub hl [4, 5, 6, 7, 8, 9, 2, 1, 0] rfl) K49_0
          obtain ⟨e49, h49q, hf⟩ := o_bs hf
          obtain ⟨n49v, h49q⟩ := lpF_ex h49q
          refine L49 n49v _ e49 h49q _ _ _ hP hD hS (lv_sub hl [3, 4, 5, 6, 7, 8, 2, 1, 0] rfl) ?_
          intro H locs ls hP hD hS hl
          refine lv_iload hx hb dX6_takes_127 (lv_at hl 6 rfl) ?_
          refine lv_iload_n hx hb dX6_takes_129 rfl (lv_at hl 1 rfl) ?_
          refine lv_icmp_gt (tgt := 162) hx hb dX6_takes_130 (by decide) (fun c130 => ?_) (fun c130 => ?_)
          · have hf := o_ip c130 hf
            refine lv_iinc (v := (s27.2.2.2 + 1)) (lv' := [(5, .int (s27.2.2.2 + 1)), (0, .ref (q 0)), (1, .int a1), (2, .int s27.1), (3, .int s27.2.1), (4, .int s27.2.2.1), (6, .int e49.1), (7, .int e49.2)]) hx hb dX6_takes_162 hl (k := 5) rfl (by rfl) (by decide) rfl (fun ls hl => ?_)
            refine lv_goto (tgt := 27) hx hb dX6_takes_165 (by decide) ?_
            obtain rfl := o_ret hf
            exact ih27 _ _ (lpK_r h27z) _ _ _ hP hD hS (lv_sub hl [1, 2, 3, 4, 5, 0] rfl) K27_0
          · have hf := o_in c130 hf
            refine lv_iload hx hb dX6_takes_133 (lv_at hl 7 rfl) ?_
            refine lv_iload_n hx hb dX6_takes_135 rfl (lv_at hl 3 rfl) ?_
            refine lv_icmp_gt (tgt := 152) hx hb dX6_takes_136 (by decide) (fun c136 => ?_) (fun c136 => ?_)
            · have hf := o_ip c136 hf
              refine lv_iload hx hb dX6_takes_152 (lv_at hl 5 rfl) ?_
              refine lv_istore_n (lv' := [(2, .int s27.2.2.2), (0, .ref (q 0)), (1, .int a1), (3, .int s27.2.1), (4, .int s27.2.2.1), (5, .int s27.2.2.2), (6, .int e49.1), (7, .int e49.2)]) hx hb dX6_takes_154 rfl hl (by decide) rfl (fun ls hl => ?_)
              refine lv_iload hx hb dX6_takes_155 (lv_at hl 7 rfl) ?_
              refine lv_istore_n (lv' := [(3, .int e49.2), (2, .int s27.2.2.2), (0, .ref (q 0)), (1, .int a1), (4, .int s27.2.2.1), (5, .int s27.2.2.2), (6, .int e49.1), (7, .int e49.2)]) hx hb dX6_takes_157 rfl hl (by decide) rfl (fun ls hl => ?_)
              refine lv_iload hx hb dX6_takes_158 (lv_at hl 6 rfl) ?_
              refine lv_istore (lv' := [(4, .int e49.1), (3, .int e49.2), (2, .int s27.2.2.2), (0, .ref (q 0)), (1, .int a1), (5, .int s27.2.2.2), (6, .int e49.1), (7, .int e49.2)]) hx hb dX6_takes_160 hl (by decide) rfl (fun ls hl => ?_)
              refine lv_iinc (v := (s27.2.2.2 + 1)) (lv' := [(5, .int (s27.2.2.2 + 1)), (4, .int e49.1), (3, .int e49.2), (2, .int s27.2.2.2), (0, .ref (q 0)), (1, .int a1), (6, .int e49.1), (7, .int e49.2)]) hx hb dX6_takes_162 hl (k := 5) rfl (by rfl) (by decide) rfl (fun ls hl => ?_)
              refine lv_goto (tgt := 27) hx hb dX6_takes_165 (by decide) ?_
              obtain rfl := o_ret hf
              exact ih27 _ _ (lpK_r h27z) _ _ _ hP hD hS (lv_sub hl [4, 5, 3, 2, 1, 0] rfl) K27_0
            · have hf := o_in c136 hf
              refine lv_iload hx hb dX6_takes_139 (lv_at hl 7 rfl) ?_
              refine lv_iload_n hx hb dX6_takes_141 rfl (lv_at hl 3 rfl) ?_
              refine lv_icmp_ne (tgt := 162) hx hb dX6_takes_142 (by decide) (fun c142 => ?_) (fun c142 => ?_)
              · have hf := o_in c142 hf
                refine lv_iinc (v := (s27.2.2.2 + 1)) (lv' := [(5, .int (s27.2.2.2 + 1)), (0, .ref (q 0)), (1, .int a1), (2, .int s27.1), (3, .int s27.2.1), (4, .int s27.2.2.1), (6, .int e49.1), (7, .int e49.2)]) hx hb dX6_takes_162 hl (k := 5) rfl (by rfl) (by decide) rfl (fun ls hl => ?_)
                refine lv_goto (tgt := 27) hx hb dX6_takes_165 (by decide) ?_
                obtain rfl := o_ret hf
                exact ih27 _ _ (lpK_r h27z) _ _ _ hP hD hS (lv_sub hl [1, 2, 3, 4, 5, 0] rfl) K27_0
              · have hf := o_ip c142 hf
                refine lv_iload hx hb dX6_takes_145 (lv_at hl 6 rfl) ?_
                refine lv_iload hx hb dX6_takes_147 (lv_at hl 4 rfl) ?_
                refine lv_icmp_ge (tgt := 162) hx hb dX6_takes_149 (by decide) (fun c149 => ?_) (fun c149 => ?_)
                · have hf := o_ip c149 hf
                  refine lv_iinc (v := (s27.2.2.2 + 1)) (lv' := [(5, .int (s27.2.2.2 + 1)), (0, .ref (q 0)), (1, .int a1), (2, .int s27.1), (3, .int s27.2.1), (4, .int s27.2.2.1), (6, .int e49.1), (7, .int e49.2)]) hx hb dX6_takes_162 hl (k := 5) rfl (by rfl) (by decide) rfl (fun ls hl => ?_)
                  refine lv_goto (tgt := 27) hx hb dX6_takes_165 (by decide) ?_
                  obtain rfl := o_ret hf
                  exact ih27 _ _ (lpK_r h27z) _ _ _ hP hD hS (lv_sub hl [1, 2, 3, 4, 5, 0] rfl) K27_0
                · have hf := o_in c149 hf
                  refine lv_iload hx hb dX6_takes_152 (lv_at hl 5 rfl) ?_
                  refine lv_istore_n (lv' := [(2, .int s27.2.2.2), (0, .ref (q 0)), (1, .int a1), (3, .int s27.2.1), (4, .int s27.2.2.1), (5, .int s27.2.2.2), (6, .int e49.1), (7, .int e49.2)]) hx hb dX6_takes_154 rfl hl (by decide) rfl (fun ls hl => ?_)
                  refine lv_iload hx hb dX6_takes_155 (lv_at hl 7 rfl) ?_
                  refine lv_istore_n (lv' := [(3, .int e49.2), (2, .int s27.2.2.2), (0, .ref (q 0)), (1, .int a1), (4, .int s27.2.2.1), (5, .int s27.2.2.2), (6, .int e49.1), (7, .int e49.2)]) hx hb dX6_takes_157 rfl hl (by decide) rfl (fun ls hl => ?_)
                  refine lv_iload hx hb dX6_takes_158 (lv_at hl 6 rfl) ?_
                  refine lv_istore (lv' := [(4, .int e49.1), (3, .int e49.2), (2, .int s27.2.2.2), (0, .ref (q 0)), (1, .int a1), (5, .int s27.2.2.2), (6, .int e49.1), (7, .int e49.2)]) hx hb dX6_takes_160 hl (by decide) rfl (fun ls hl => ?_)
                  refine lv_iinc (v := (s27.2.2.2 + 1)) (lv' := [(5, .int (s27.2.2.2 + 1)), (4, .int e49.1), (3, .int e49.2), (2, .int s27.2.2.2), (0, .ref (q 0)), (1, .int a1), (6, .int e49.1), (7, .int e49.2)]) hx hb dX6_takes_162 hl (k := 5) rfl (by rfl) (by decide) rfl (fun ls hl => ?_)
                  refine lv_goto (tgt := 27) hx hb dX6_takes_165 (by decide) ?_
                  obtain rfl := o_ret hf
                  exact ih27 _ _ (lpK_r h27z) _ _ _ hP hD hS (lv_sub hl [4, 5, 3, 2, 1, 0] rfl) K27_0
    obtain ⟨e27, h27q, hf⟩ := o_bs hf
    obtain ⟨n27v, h27q⟩ := lpF_ex h27q
    refine L27 n27v _ e27 h27q _ _ _ hP hD hS (lv_sub hl [4, 5, 3, 2, 1, 0] rfl) ?_
    intro H locs ls hP hD hS hl
    refine lv_iload_n hx hb dX6_takes_168 rfl (lv_at hl 0 rfl) ?_
    obtain rfl := o_ret hf
    exact k_iret hx hb hr hP hD hS (Nat.zero_le _) (Nat.zero_le _) hlocks dX6_takes_169
  · have hf := o_ip c9 hf
    refine lv_aload_n hx hb dX6_takes_12 rfl (lv_at hl 0 rfl) ?_
    obtain ⟨r13, h13r, hf⟩ := o_bs hf
    refine k_goi (va_runV (As := []) (rest := []) ⟨hx, hb, hml, hown, hts⟩ (zX6_bad l D cy sa q rest H.size u  r13 h13r) (cwV 0 hts (gB_V wB144 wB145 wB146 wB5 wB147) rfl rfl rfl (by decide +kernel) ⟨Nat.le_of_ble_eq_true rfl, Nat.le_of_ble_eq_true rfl⟩) ⟨kP.blind, k_recv hE hP (ci := 6) (q0 := 0) rfl rfl, k_pre hP hD hS hE hA⟩ rfl rfl hl.1 rfl (lv_room (Nat.le_of_ble_eq_true rfl)) dX6_takes_13 ⟨Nat.zero_le _, Nat.zero_le _⟩) hD hS hA (fun H locs hP hD hS => ?_)
    obtain rfl := o_ret hf
    exact k_iret hx hb hr hP hD hS (Nat.zero_le _) (Nat.zero_le _) hlocks dX6_takes_16
noncomputable def mX6_two_s17 (u : KS) (s17 : Int64 × Int32) : Option ((Int64) ⊕ (Int64 × Int32)) :=
  if 2731 ≤ s17.2 then
  (some (.inl s17.1))
  else
  (gd (inb s17.2 2731) (some (.inr ((s17.1 + ((gA u 0) (s17.2.toNatClampNeg))), (s17.2 + 1)))))
noncomputable def mX6_two (u : KS) : Option (Int32 × KS) :=
  (mX6_weighs u).bind fun r1 =>
  if r1.1 = 0 then
  ((mX6_no r1.2).bind fun r8 =>
  some (r8.1, r8.2))
  else
  ((lpF (mX6_two_s17 r1.2) (0, 85)).bind fun e17 =>
  (mX6_tells r1.2 e17 (gL r1.2 0)).bind fun r45 =>
  some (r45.1, r45.2))
abbrev rmX6_two : Room := { frames := 6, cells := 0, slots := 0, locals := 143 }
set_option maxRecDepth 100000 in
set_option maxHeartbeats 4000000 in
theorem zX6_two (l : Launch) (D : va_G) (cy : Nat → ClassId) (sa : Nat → Nat) (q : Nat → Nat) (rest : va_W) (sz : Nat) (u : KS) (res : Int32 × KS) (hf : mX6_two u = some res) : kMi l yX6_two (wsK yX6_two cX6_two 4 (some .int)) rmX6_two D cy sa (WM q cy u ++ rest) sz [.ref (q 0)] res.1 (WM q cy res.2 ++ rest) 0 0 := by
  refine kM_of (Qc := fun A => kQi D A res.1 (WM q cy res.2 ++ rest)) (cc := cX6_two) (maxL := 4) (ret := (some .int)) (by decide) (Nat.le_of_ble_eq_true rfl) ?_
  intro p e s m below meth c A hx hb hml hr hts hown hlocks hin hA hP hD hS hE hsz ls hl
  have hown : s.vm.findClass RX6 = some m.cls := hown
  obtain ⟨H, hH0⟩ : ∃ H, H = s.heap := ⟨_, rfl⟩
  obtain ⟨locs, hlocs0⟩ : ∃ locs : List Loc, locs = [] := ⟨_, rfl⟩
  have hP : va_P D vwCl (WM q cy u ++ rest) H := by rw [hH0]; exact hP
  have hS : va_S A s.heap H locs := by rw [hH0, hlocs0]; exact hS
  have hl : lv_has ls 4 [(0, .ref (q 0))] := hl
  suffices hgoal : W p l e rmX6_two s m ([.ref (q 0)] : List Value).toArray below meth c H locs 0 0 (MQ below (kQi D A res.1 (WM q cy res.2 ++ rest)) ([.ref (q 0)] : List Value).toArray s 0 0 A) (F0 m 0 ls []) by rw [hH0, hlocs0] at hgoal; exact hgoal
  clear hH0 hlocs0
  unfold mX6_two at hf
  refine lv_aload_n hx hb dX6_two_0 rfl (lv_at hl 0 rfl) ?_
  obtain ⟨r1, h1r, hf⟩ := o_bs hf
  refine k_goi (va_runV (As := []) (rest := []) ⟨hx, hb, hml, hown, hts⟩ (zX6_weighs l D cy sa q rest H.size u  r1 h1r) (cwV 0 hts (gB_V wB563 wB564 wB565 wB5 wB566) rfl rfl rfl (by decide +kernel) ⟨Nat.le_of_ble_eq_true rfl, Nat.le_of_ble_eq_true rfl⟩) ⟨kP.blind, k_recv hE hP (ci := 6) (q0 := 0) rfl rfl, k_pre hP hD hS hE hA⟩ rfl rfl hl.1 rfl (lv_room (Nat.le_of_ble_eq_true rfl)) dX6_two_1 ⟨Nat.zero_le _, Nat.zero_le _⟩) hD hS hA (fun H locs hP hD hS => ?_)
  refine lv_if_ne (tgt := 12) hx hb dX6_two_4 (by decide) (fun c4 => ?_) (fun c4 => ?_)
  · have hf := o_in c4 hf
    refine lv_lconst (v := 0) hx hb dX6_two_12 (by decide) ?_
    refine lv_lstore_n (lv' := [(1, .long 0), (0, .ref (q 0))]) hx hb dX6_two_13 rfl hl (by decide) rfl (fun ls hl => ?_)
    refine lv_bipush (v := 85) hx hb dX6_two_14 (by decide) ?_
    refine lv_istore_n (lv' := [(3, .int 85), (1, .long 0), (0, .ref (q 0))]) hx hb dX6_two_16 rfl hl (by decide) rfl (fun ls hl => ?_)
    have L17 : ∀ (n17v : Nat) (s17 : Int64 × Int32) (e17 : Int64), lpO (mX6_two_s17 r1.2) n17v s17 = some e17 → ∀ (H : Heap) (locs : List Loc) (ls : Array Slot), va_P D vwCl (WM q cy r1.2 ++ rest) H → va_D A (WM q cy r1.2 ++ rest) → va_S A s.heap H locs → lv_has ls 4 [(0, .ref (q 0)), (1, .long s17.1), (3, .int s17.2)] → (∀ (H : Heap) (locs : List Loc) (ls : Array Slot), va_P D vwCl (WM q cy r1.2 ++ rest) H → va_D A (WM q cy r1.2 ++ rest) → va_S A s.heap H locs → lv_has ls 4 [(0, .ref (q 0)), (1, .long e17)] → W p l e rmX6_two s m ([.ref (q 0)] : List Value).toArray below meth c H locs 0 0 (MQ below (kQi D A res.1 (WM q cy res.2 ++ rest)) ([.ref (q 0)] : List Value).toArray s 0 0 A) (F0 m 39 ls [])) → W p l e rmX6_two s m ([.ref (q 0)] : List Value).toArray below meth c H locs 0 0 (MQ below (kQi D A res.1 (WM q cy res.2 ++ rest)) ([.ref (q 0)] : List Value).toArray s 0 0 A) (F0 m 17 ls []) := by
      intro n17v
      induction n17v with
      | zero => intro s17 e17 h; exact (lpO_z h).elim
      | succ n17v ih17 =>
        intro s17 e17 h17z H locs ls hP hD hS hl K17_0
        obtain ⟨x17, hf, h17z⟩ := lpO_s h17z
        unfold mX6_two_s17 at hf
        refine lv_iload_n hx hb dX6_two_17 rfl (lv_at hl 2 rfl) ?_
        refine lv_sipush (v := 2731) hx hb dX6_two_18 (by decide) ?_
        refine lv_icmp_ge (tgt := 39) hx hb dX6_two_21 (by decide) (fun c21 => ?_) (fun c21 => ?_)
        · have hf := o_ip c21 hf
          obtain rfl := o_ret hf
          obtain rfl := lpK_l h17z
          exact K17_0 _ _ _ hP hD hS (lv_sub hl [0, 1] rfl)
        · have hf := o_in c21 hf
          refine lv_lload_n hx hb dX6_two_24 rfl (lv_at hl 1 rfl) ?_
          refine lv_aload_n hx hb dX6_two_25 rfl (lv_at hl 0 rfl) ?_
          refine va_get (ci := 6) (v := .ref (q 11)) (C := RX6) (T := TX6) (N := 26) hx hb hts inlX6 hown hE.1 hP 0 rfl rfl 20 (by decide) (hts _ wB94) (fun _ h9 => h9) rfl dX6_two_26 ?_
          refine lv_iload_n hx hb dX6_two_29 rfl (lv_at hl 2 rfl) ?_
          obtain ⟨hg30, hf⟩ := gd_s hf
          refine va_lald (f := (gA r1.2 0)) hx hb hE.1 hP 11 1 rfl rfl hg30 dX6_two_30 ?_
          refine lv_ladd hx hb dX6_two_31 ?_
          refine lv_lstore_n (lv' := [(1, .long (s17.1 + ((gA r1.2 0) (s17.2.toNatClampNeg)))), (0, .ref (q 0)), (3, .int s17.2)]) hx hb dX6_two_32 rfl hl (by decide) rfl (fun ls hl => ?_)
          refine lv_iinc (v := (s17.2 + 1)) (lv' := [(3, .int (s17.2 + 1)), (1, .long (s17.1 + ((gA r1.2 0) (s17.2.toNatClampNeg)))), (0, .ref (q 0))]) hx hb dX6_two_33 hl (k := 2) rfl (by rfl) (by decide) rfl (fun ls hl => ?_)
          refine lv_goto (tgt := 17) hx hb dX6_two_36 (by decide) ?_
          obtain rfl := o_ret hf
          exact ih17 _ _ (lpK_r h17z) _ _ _ hP hD hS (lv_sub hl [2, 1, 0] rfl) K17_0
    obtain ⟨e17, h17q, hf⟩ := o_bs hf
    obtain ⟨n17v, h17q⟩ := lpF_ex h17q
    refine L17 n17v _ e17 h17q _ _ _ hP hD hS (lv_sub hl [2, 1, 0] rfl) ?_
    intro H locs ls hP hD hS hl
    refine lv_aload_n hx hb dX6_two_39 rfl (lv_at hl 0 rfl) ?_
    refine lv_lload_n hx hb dX6_two_40 rfl (lv_at hl 1 rfl) ?_
    refine lv_aload_n hx hb dX6_two_41 rfl (lv_at hl 0 rfl) ?_
    refine va_get (ci := 6) (v := .long (gL r1.2 0)) (C := RX6) (T := TX6) (N := 26) hx hb hts inlX6 hown hE.1 hP 0 rfl rfl 21 (by decide) (hts _ wB562) (fun _ h9 => h9) rfl dX6_two_42 ?_
    obtain ⟨r45, h45r, hf⟩ := o_bs hf
    refine k_goi (va_runV (As := [.long e17, .long (gL r1.2 0)]) (rest := []) ⟨hx, hb, hml, hown, hts⟩ (zX6_tells l D cy sa q rest H.size r1.2 e17 (gL r1.2 0) r45 h45r) (cwV 2 hts (gB_V wB580 wB581 wB582 wB5 wB583) rfl rfl rfl (by decide +kernel) ⟨Nat.le_of_ble_eq_true rfl, Nat.le_of_ble_eq_true rfl⟩) ⟨kP.blind, k_recv hE hP (ci := 6) (q0 := 0) rfl rfl, k_pre hP hD hS hE hA⟩ rfl rfl hl.1 rfl (lv_room (Nat.le_of_ble_eq_true rfl)) dX6_two_45 ⟨Nat.zero_le _, Nat.zero_le _⟩) hD hS hA (fun H locs hP hD hS => ?_)
    obtain rfl := o_ret hf
    exact k_iret hx hb hr hP hD hS (Nat.zero_le _) (Nat.zero_le _) hlocks dX6_two_48
  · have hf := o_ip c4 hf
    refine lv_aload_n hx hb dX6_two_7 rfl (lv_at hl 0 rfl) ?_
    obtain ⟨r8, h8r, hf⟩ := o_bs hf
    refine k_goi (va_runV (As := []) (rest := []) ⟨hx, hb, hml, hown, hts⟩ (zX6_no l D cy sa q rest H.size r1.2  r8 h8r) (cwV 0 hts (gB_V wB328 wB329 wB330 wB5 wB331) rfl rfl rfl (by decide +kernel) ⟨Nat.le_of_ble_eq_true rfl, Nat.le_of_ble_eq_true rfl⟩) ⟨kP.blind, k_recv hE hP (ci := 6) (q0 := 0) rfl rfl, k_pre hP hD hS hE hA⟩ rfl rfl hl.1 rfl (lv_room (Nat.le_of_ble_eq_true rfl)) dX6_two_8 ⟨Nat.zero_le _, Nat.zero_le _⟩) hD hS hA (fun H locs hP hD hS => ?_)
    obtain rfl := o_ret hf
    exact k_iret hx hb hr hP hD hS (Nat.zero_le _) (Nat.zero_le _) hlocks dX6_two_11
noncomputable def mX6_type_s40 (c1 : Int64) (s40 : Int32 × KS) : Option ((KS) ⊕ (Int32 × KS)) :=
  if s40.1 < 0 then
  (some (.inl s40.2))
  else
  (gd (inb (80 + ((gR s40.2 0) ((0 : Int32).toNatClampNeg))) 200) (some (.inr ((s40.1 + (-1)), (sR s40.2 0 (upd (upd (gR s40.2 0) ((80 + ((gR s40.2 0) ((0 : Int32).toNatClampNeg))).toNatClampNeg) (((c1 >>> ((8 * s40.1).toInt64 &&& 63)) &&& 255).toInt32)) ((0 : Int32).toNatClampNeg) (((upd (gR s40.2 0) ((80 + ((gR s40.2 0) ((0 : Int32).toNatClampNeg))).toNatClampNeg) (((c1 >>> ((8 * s40.1).toInt64 &&& 63)) &&& 255).toInt32)) ((0 : Int32).toNatClampNeg)) + 1)))))))
noncomputable def mX6_type (u : KS) (a1 : Int64) (a3 : Int32) : Option (Int32 × KS) :=
  (mX6_in (a3.toInt64) 1 8).bind fun r6 =>
  if r6 = 0 then
  ((mX6_bad u).bind fun r13 =>
  some (r13.1, r13.2))
  else
  (if (((gR u 0) ((0 : Int32).toNatClampNeg)) + a3) ≤ 120 then
  ((lpF (mX6_type_s40 a1) ((a3 - 1), u)).bind fun e40 =>
  some (((gR e40 0) ((0 : Int32).toNatClampNeg)), e40))
  else
  ((mX6_full u).bind fun r31 =>
  some (r31.1, r31.2)))
abbrev rmX6_type : Room := { frames := 2, cells := 0, slots := 0, locals := 42 }
set_option maxRecDepth 100000 in
set_option maxHeartbeats 4000000 in
theorem zX6_type (l : Launch) (D : va_G) (cy : Nat → ClassId) (sa : Nat → Nat) (q : Nat → Nat) (rest : va_W) (sz : Nat) (u : KS) (a1 : Int64) (a3 : Int32) (res : Int32 × KS) (hf : mX6_type u a1 a3 = some res) : kMi l yX6_type (wsK yX6_type cX6_type 5 (some .int)) rmX6_type D cy sa (WM q cy u ++ rest) sz [.ref (q 0), .long a1, .int a3] res.1 (WM q cy res.2 ++ rest) 0 0 := by
  refine kM_of (Qc := fun A => kQi D A res.1 (WM q cy res.2 ++ rest)) (cc := cX6_type) (maxL := 5) (ret := (some .int)) (by decide) (Nat.le_of_ble_eq_true rfl) ?_
  intro p e s m below meth c A hx hb hml hr hts hown hlocks hin hA hP hD hS hE hsz ls hl
  have hown : s.vm.findClass RX6 = some m.cls := hown
  obtain ⟨H, hH0⟩ : ∃ H, H = s.heap := ⟨_, rfl⟩
  obtain ⟨locs, hlocs0⟩ : ∃ locs : List Loc, locs = [] := ⟨_, rfl⟩
  have hP : va_P D vwCl (WM q cy u ++ rest) H := by rw [hH0]; exact hP
  have hS : va_S A s.heap H locs := by rw [hH0, hlocs0]; exact hS
  have hl : lv_has ls 5 [(0, .ref (q 0)), (1, .long a1), (3, .int a3)] := hl
  suffices hgoal : W p l e rmX6_type s m ([.ref (q 0), .long a1, .int a3] : List Value).toArray below meth c H locs 0 0 (MQ below (kQi D A res.1 (WM q cy res.2 ++ rest)) ([.ref (q 0), .long a1, .int a3] : List Value).toArray s 0 0 A) (F0 m 0 ls []) by rw [hH0, hlocs0] at hgoal; exact hgoal
  clear hH0 hlocs0
  unfold mX6_type at hf
  refine lv_iload_n hx hb dX6_type_0 rfl (lv_at hl 2 rfl) ?_
  refine lv_i2l (v := (a3.toInt64)) hx hb dX6_type_1 rfl ?_
  refine lv_lconst (v := 1) hx hb dX6_type_2 (by decide) ?_
  refine lv_ldc2 (v := 8) hx hb hown (hts _ wB139) dX6_type_3 ?_
  obtain ⟨r6, h6r, hf⟩ := o_bs hf
  refine k_goi (va_runS (As := [.long (a3.toInt64), .long 1, .long 8]) (rest := []) ⟨hx, hb, hml, hown, hts⟩ (zX6_in l D cy sa (WM q cy u ++ rest) H.size (a3.toInt64) 1 8  r6  h6r) (va_cwS 3 hts (gB_S wB141 wB142 wB5 wB143) rfl rfl rfl (by decide +kernel) ⟨Nat.le_of_ble_eq_true rfl, Nat.le_of_ble_eq_true rfl⟩) ⟨kP.blind, k_pre hP hD hS hE hA⟩ rfl rfl hl.1 rfl (lv_room (Nat.le_of_ble_eq_true rfl)) dX6_type_6 ⟨Nat.zero_le _, Nat.zero_le _⟩) hD hS hA (fun H locs hP hD hS => ?_)
  refine lv_if_ne (tgt := 17) hx hb dX6_type_9 (by decide) (fun c9 => ?_) (fun c9 => ?_)
  · have hf := o_in c9 hf
    refine lv_aload_n hx hb dX6_type_17 rfl (lv_at hl 0 rfl) ?_
    refine va_get (ci := 6) (v := .ref (q 1)) (C := RX6) (T := TX6) (N := 26) hx hb hts inlX6 hown hE.1 hP 0 rfl rfl 0 (by decide) (hts _ wB83) (fun _ h9 => h9) rfl dX6_type_18 ?_
    refine lv_iconst (v := 0) hx hb dX6_type_21 (by decide) ?_
    refine va_iald (f := (gR u 0)) hx hb hE.1 hP 1 0 rfl rfl (k_in (by decide)) dX6_type_22 ?_
    refine lv_iload_n hx hb dX6_type_23 rfl (lv_at hl 2 rfl) ?_
    refine lv_iadd hx hb dX6_type_24 ?_
    refine lv_bipush (v := 120) hx hb dX6_type_25 (by decide) ?_
    refine lv_icmp_le (tgt := 35) hx hb dX6_type_27 (by decide) (fun c27 => ?_) (fun c27 => ?_)
    · have hf := o_ip c27 hf
      refine lv_iload_n hx hb dX6_type_35 rfl (lv_at hl 2 rfl) ?_
      refine lv_iconst (v := 1) hx hb dX6_type_36 (by decide) ?_
      refine lv_isub hx hb dX6_type_37 ?_
      refine lv_istore (lv' := [(4, .int (a3 - 1)), (0, .ref (q 0)), (1, .long a1), (3, .int a3)]) hx hb dX6_type_38 hl (by decide) rfl (fun ls hl => ?_)
      have L40 : ∀ (n40v : Nat) (s40 : Int32 × KS) (e40 : KS), lpO (mX6_type_s40 a1) n40v s40 = some e40 → ∀ (H : Heap) (locs : List Loc) (ls : Array Slot), va_P D vwCl (WM q cy s40.2 ++ rest) H → va_D A (WM q cy s40.2 ++ rest) → va_S A s.heap H locs → lv_has ls 5 [(0, .ref (q 0)), (1, .long a1), (4, .int s40.1)] → (∀ (H : Heap) (locs : List Loc) (ls : Array Slot), va_P D vwCl (WM q cy e40 ++ rest) H → va_D A (WM q cy e40 ++ rest) → va_S A s.heap H locs → lv_has ls 5 [(0, .ref (q 0))] → W p l e rmX6_type s m ([.ref (q 0), .long a1, .int a3] : List Value).toArray below meth c H locs 0 0 (MQ below (kQi D A res.1 (WM q cy res.2 ++ rest)) ([.ref (q 0), .long a1, .int a3] : List Value).toArray s 0 0 A) (F0 m 87 ls [])) → W p l e rmX6_type s m ([.ref (q 0), .long a1, .int a3] : List Value).toArray below meth c H locs 0 0 (MQ below (kQi D A res.1 (WM q cy res.2 ++ rest)) ([.ref (q 0), .long a1, .int a3] : List Value).toArray s 0 0 A) (F0 m 40 ls []) := by
        intro n40v
        induction n40v with
        | zero => intro s40 e40 h; exact (lpO_z h).elim
        | succ n40v ih40 =>
          intro s40 e40 h40z H locs ls hP hD hS hl K40_0
          obtain ⟨x40, hf, h40z⟩ := lpO_s h40z
          unfold mX6_type_s40 at hf
          refine lv_iload hx hb dX6_type_40 (lv_at hl 2 rfl) ?_
          refine lv_if_lt (tgt := 87) hx hb dX6_type_42 (by decide) (fun c42 => ?_) (fun c42 => ?_)
          · have hf := o_ip c42 hf
            obtain rfl := o_ret hf
            obtain rfl := lpK_l h40z
            exact K40_0 _ _ _ hP hD hS (lv_sub hl [0] rfl)
          · have hf := o_in c42 hf
            refine lv_aload_n hx hb dX6_type_45 rfl (lv_at hl 0 rfl) ?_
            refine va_get (ci := 6) (v := .ref (q 1)) (C := RX6) (T := TX6) (N := 26) hx hb hts inlX6 hown hE.1 hP 0 rfl rfl 0 (by decide) (hts _ wB83) (fun _ h9 => h9) rfl dX6_type_46 ?_
            refine lv_bipush (v := 80) hx hb dX6_type_49 (by decide) ?_
            refine lv_aload_n hx hb dX6_type_51 rfl (lv_at hl 0 rfl) ?_
            refine va_get (ci := 6) (v := .ref (q 1)) (C := RX6) (T := TX6) (N := 26) hx hb hts inlX6 hown hE.1 hP 0 rfl rfl 0 (by decide) (hts _ wB83) (fun _ h9 => h9) rfl dX6_type_52 ?_
            refine lv_iconst (v := 0) hx hb dX6_type_55 (by decide) ?_
            refine va_iald (f := (gR s40.2 0)) hx hb hE.1 hP 1 0 rfl rfl (k_in (by decide)) dX6_type_56 ?_
            refine lv_iadd hx hb dX6_type_57 ?_
            refine lv_lload_n hx hb dX6_type_58 rfl (lv_at hl 1 rfl) ?_
            refine lv_bipush (v := 8) hx hb dX6_type_59 (by decide) ?_
            refine lv_iload hx hb dX6_type_61 (lv_at hl 2 rfl) ?_
            refine lv_imul hx hb dX6_type_63 ?_
            refine lv_lshr (v := (a1 >>> ((8 * s40.1).toInt64 &&& 63))) hx hb dX6_type_64 rfl ?_
            refine lv_ldc2 (v := 255) hx hb hown (hts _ wB140) dX6_type_65 ?_
            refine lv_land hx hb dX6_type_68 ?_
            refine lv_l2i (v := (((a1 >>> ((8 * s40.1).toInt64 &&& 63)) &&& 255).toInt32)) hx hb dX6_type_69 rfl ?_
            obtain ⟨hg70, hf⟩ := gd_s hf
            refine va_iast (f := (gR s40.2 0)) hx hb hE.1 hP hD hS 1 0 rfl rfl hg70 dX6_type_70 (fun H locs hP hD hS => ?_)
            have hP : va_P D vwCl (WM q cy (sR s40.2 0 (upd (gR s40.2 0) ((80 + ((gR s40.2 0) ((0 : Int32).toNatClampNeg))).toNatClampNeg) (((a1 >>> ((8 * s40.1).toInt64 &&& 63)) &&& 255).toInt32))) ++ rest) H := hP
            have hD : va_D A (WM q cy (sR s40.2 0 (upd (gR s40.2 0) ((80 + ((gR s40.2 0) ((0 : Int32).toNatClampNeg))).toNatClampNeg) (((a1 >>> ((8 * s40.1).toInt64 &&& 63)) &&& 255).toInt32))) ++ rest) := hD
            refine lv_aload_n hx hb dX6_type_71 rfl (lv_at hl 0 rfl) ?_
            refine va_get (ci := 6) (v := .ref (q 1)) (C := RX6) (T := TX6) (N := 26) hx hb hts inlX6 hown hE.1 hP 0 rfl rfl 0 (by decide) (hts _ wB83) (fun _ h9 => h9) rfl dX6_type_72 ?_
            refine lv_iconst (v := 0) hx hb dX6_type_75 (by decide) ?_
            refine lv_dup2_11 hx hb dX6_type_76 rfl rfl ?_
            refine va_iald (f := (upd (gR s40.2 0) ((80 + ((gR s40.2 0) ((0 : Int32).toNatClampNeg))).toNatClampNeg) (((a1 >>> ((8 * s40.1).toInt64 &&& 63)) &&& 255).toInt32))) hx hb hE.1 hP 1 0 rfl rfl (k_in (by decide)) dX6_type_77 ?_
            refine lv_iconst (v := 1) hx hb dX6_type_78 (by decide) ?_
            refine lv_iadd hx hb dX6_type_79 ?_
            refine va_iast (f := (upd (gR s40.2 0) ((80 + ((gR s40.2 0) ((0 : Int32).toNatClampNeg))).toNatClampNeg) (((a1 >>> ((8 * s40.1).toInt64 &&& 63)) &&& 255).toInt32))) hx hb hE.1 hP hD hS 1 0 rfl rfl (k_in (by decide)) dX6_type_80 (fun H locs hP hD hS => ?_)
            have hQ : ∀ (xb : KS) (x0 : (Nat → Int32)) (xn : (Nat → Int32)), (WM q cy (sR xb 0 x0) ++ rest).set 1 (q 1, .inl (cy 0, 200, .inl xn)) = WM q cy (sR xb 0 xn) ++ rest := fun _ _ _ => rfl
            have hP : va_P D vwCl (WM q cy (sR s40.2 0 (upd (upd (gR s40.2 0) ((80 + ((gR s40.2 0) ((0 : Int32).toNatClampNeg))).toNatClampNeg) (((a1 >>> ((8 * s40.1).toInt64 &&& 63)) &&& 255).toInt32)) ((0 : Int32).toNatClampNeg) (((upd (gR s40.2 0) ((80 + ((gR s40.2 0) ((0 : Int32).toNatClampNeg))).toNatClampNeg) (((a1 >>> ((8 * s40.1).toInt64 &&& 63)) &&& 255).toInt32)) ((0 : Int32).toNatClampNeg)) + 1))) ++ rest) H := k_wP (hQ s40.2 (upd (gR s40.2 0) ((80 + ((gR s40.2 0) ((0 : Int32).toNatClampNeg))).toNatClampNeg) (((a1 >>> ((8 * s40.1).toInt64 &&& 63)) &&& 255).toInt32)) (upd (upd (gR s40.2 0) ((80 + ((gR s40.2 0) ((0 : Int32).toNatClampNeg))).toNatClampNeg) (((a1 >>> ((8 * s40.1).toInt64 &&& 63)) &&& 255).toInt32)) ((0 : Int32).toNatClampNeg) (((upd (gR s40.2 0) ((80 + ((gR s40.2 0) ((0 : Int32).toNatClampNeg))).toNatClampNeg) (((a1 >>> ((8 * s40.1).toInt64 &&& 63)) &&& 255).toInt32)) ((0 : Int32).toNatClampNeg)) + 1))) hP
            have hD : va_D A (WM q cy (sR s40.2 0 (upd (upd (gR s40.2 0) ((80 + ((gR s40.2 0) ((0 : Int32).toNatClampNeg))).toNatClampNeg) (((a1 >>> ((8 * s40.1).toInt64 &&& 63)) &&& 255).toInt32)) ((0 : Int32).toNatClampNeg) (((upd (gR s40.2 0) ((80 + ((gR s40.2 0) ((0 : Int32).toNatClampNeg))).toNatClampNeg) (((a1 >>> ((8 * s40.1).toInt64 &&& 63)) &&& 255).toInt32)) ((0 : Int32).toNatClampNeg)) + 1))) ++ rest) := k_wD (hQ s40.2 (upd (gR s40.2 0) ((80 + ((gR s40.2 0) ((0 : Int32).toNatClampNeg))).toNatClampNeg) (((a1 >>> ((8 * s40.1).toInt64 &&& 63)) &&& 255).toInt32)) (upd (upd (gR s40.2 0) ((80 + ((gR s40.2 0) ((0 : Int32).toNatClampNeg))).toNatClampNeg) (((a1 >>> ((8 * s40.1).toInt64 &&& 63)) &&& 255).toInt32)) ((0 : Int32).toNatClampNeg) (((upd (gR s40.2 0) ((80 + ((gR s40.2 0) ((0 : Int32).toNatClampNeg))).toNatClampNeg) (((a1 >>> ((8 * s40.1).toInt64 &&& 63)) &&& 255).toInt32)) ((0 : Int32).toNatClampNeg)) + 1))) hD
            clear hQ
            refine lv_iinc (v := (s40.1 + (-1))) (lv' := [(4, .int (s40.1 + (-1))), (0, .ref (q 0)), (1, .long a1)]) hx hb dX6_type_81 hl (k := 2) rfl (by rfl) (by decide) rfl (fun ls hl => ?_)
            refine lv_goto (tgt := 40) hx hb dX6_type_84 (by decide) ?_
            obtain rfl := o_ret hf
            exact ih40 _ _ (lpK_r h40z) _ _ _ hP hD hS (lv_sub hl [1, 2, 0] rfl) K40_0
      obtain ⟨e40, h40q, hf⟩ := o_bs hf
      obtain ⟨n40v, h40q⟩ := lpF_ex h40q
      refine L40 n40v _ e40 h40q _ _ _ hP hD hS (lv_sub hl [1, 2, 0] rfl) ?_
      intro H locs ls hP hD hS hl
      refine lv_aload_n hx hb dX6_type_87 rfl (lv_at hl 0 rfl) ?_
      refine va_get (ci := 6) (v := .ref (q 1)) (C := RX6) (T := TX6) (N := 26) hx hb hts inlX6 hown hE.1 hP 0 rfl rfl 0 (by decide) (hts _ wB83) (fun _ h9 => h9) rfl dX6_type_88 ?_
      refine lv_iconst (v := 0) hx hb dX6_type_91 (by decide) ?_
      refine va_iald (f := (gR e40 0)) hx hb hE.1 hP 1 0 rfl rfl (k_in (by decide)) dX6_type_92 ?_
      obtain rfl := o_ret hf
      exact k_iret hx hb hr hP hD hS (Nat.zero_le _) (Nat.zero_le _) hlocks dX6_type_93
    · have hf := o_in c27 hf
      refine lv_aload_n hx hb dX6_type_30 rfl (lv_at hl 0 rfl) ?_
      obtain ⟨r31, h31r, hf⟩ := o_bs hf
      refine k_goi (va_runV (As := []) (rest := []) ⟨hx, hb, hml, hown, hts⟩ (zX6_full l D cy sa q rest H.size u  r31 h31r) (cwV 0 hts (gB_V wB152 wB153 wB154 wB5 wB155) rfl rfl rfl (by decide +kernel) ⟨Nat.le_of_ble_eq_true rfl, Nat.le_of_ble_eq_true rfl⟩) ⟨kP.blind, k_recv hE hP (ci := 6) (q0 := 0) rfl rfl, k_pre hP hD hS hE hA⟩ rfl rfl hl.1 rfl (lv_room (Nat.le_of_ble_eq_true rfl)) dX6_type_31 ⟨Nat.zero_le _, Nat.zero_le _⟩) hD hS hA (fun H locs hP hD hS => ?_)
      obtain rfl := o_ret hf
      exact k_iret hx hb hr hP hD hS (Nat.zero_le _) (Nat.zero_le _) hlocks dX6_type_34
  · have hf := o_ip c9 hf
    refine lv_aload_n hx hb dX6_type_12 rfl (lv_at hl 0 rfl) ?_
    obtain ⟨r13, h13r, hf⟩ := o_bs hf
    refine k_goi (va_runV (As := []) (rest := []) ⟨hx, hb, hml, hown, hts⟩ (zX6_bad l D cy sa q rest H.size u  r13 h13r) (cwV 0 hts (gB_V wB144 wB145 wB146 wB5 wB147) rfl rfl rfl (by decide +kernel) ⟨Nat.le_of_ble_eq_true rfl, Nat.le_of_ble_eq_true rfl⟩) ⟨kP.blind, k_recv hE hP (ci := 6) (q0 := 0) rfl rfl, k_pre hP hD hS hE hA⟩ rfl rfl hl.1 rfl (lv_room (Nat.le_of_ble_eq_true rfl)) dX6_type_13 ⟨Nat.zero_le _, Nat.zero_le _⟩) hD hS hA (fun H locs hP hD hS => ?_)
    obtain rfl := o_ret hf
    exact k_iret hx hb hr hP hD hS (Nat.zero_le _) (Nat.zero_le _) hlocks dX6_type_16
noncomputable def mX6_warm (u : KS) (a1 : Int32) : Option (Int32 × KS) :=
  (mX6_passes u ((gR u 0) ((4 : Int32).toNatClampNeg))).bind fun r7 =>
  if r7.1 = 0 then
  ((mX6_no r7.2).bind fun r14 =>
  some (r14.1, r14.2))
  else
  ((mX6_in (a1.toInt64) 0 ((gI r7.2 5).toInt64)).bind fun r26 =>
  if r26 = 0 then
  ((mX6_bad r7.2).bind fun r42 =>
  some (r42.1, r42.2))
  else
  (gd (inb a1 121) (some (((gR r7.2 8) (a1.toNatClampNeg)), r7.2))))
abbrev rmX6_warm : Room := { frames := 5, cells := 0, slots := 0, locals := 117 }
set_option maxRecDepth 100000 in
set_option maxHeartbeats 4000000 in
theorem zX6_warm (l : Launch) (D : va_G) (cy : Nat → ClassId) (sa : Nat → Nat) (q : Nat → Nat) (rest : va_W) (sz : Nat) (u : KS) (a1 : Int32) (res : Int32 × KS) (hf : mX6_warm u a1 = some res) : kMi l yX6_warm (wsK yX6_warm cX6_warm 2 (some .int)) rmX6_warm D cy sa (WM q cy u ++ rest) sz [.ref (q 0), .int a1] res.1 (WM q cy res.2 ++ rest) 0 0 := by
  refine kM_of (Qc := fun A => kQi D A res.1 (WM q cy res.2 ++ rest)) (cc := cX6_warm) (maxL := 2) (ret := (some .int)) (by decide) (Nat.le_of_ble_eq_true rfl) ?_
  intro p e s m below meth c A hx hb hml hr hts hown hlocks hin hA hP hD hS hE hsz ls hl
  have hown : s.vm.findClass RX6 = some m.cls := hown
  obtain ⟨H, hH0⟩ : ∃ H, H = s.heap := ⟨_, rfl⟩
  obtain ⟨locs, hlocs0⟩ : ∃ locs : List Loc, locs = [] := ⟨_, rfl⟩
  have hP : va_P D vwCl (WM q cy u ++ rest) H := by rw [hH0]; exact hP
  have hS : va_S A s.heap H locs := by rw [hH0, hlocs0]; exact hS
  have hl : lv_has ls 2 [(0, .ref (q 0)), (1, .int a1)] := hl
  suffices hgoal : W p l e rmX6_warm s m ([.ref (q 0), .int a1] : List Value).toArray below meth c H locs 0 0 (MQ below (kQi D A res.1 (WM q cy res.2 ++ rest)) ([.ref (q 0), .int a1] : List Value).toArray s 0 0 A) (F0 m 0 ls []) by rw [hH0, hlocs0] at hgoal; exact hgoal
  clear hH0 hlocs0
  unfold mX6_warm at hf
  refine lv_aload_n hx hb dX6_warm_0 rfl (lv_at hl 0 rfl) ?_
  refine lv_aload_n hx hb dX6_warm_1 rfl (lv_at hl 0 rfl) ?_
  refine va_get (ci := 6) (v := .ref (q 1)) (C := RX6) (T := TX6) (N := 26) hx hb hts inlX6 hown hE.1 hP 0 rfl rfl 0 (by decide) (hts _ wB83) (fun _ h9 => h9) rfl dX6_warm_2 ?_
  refine lv_iconst (v := 4) hx hb dX6_warm_5 (by decide) ?_
  refine va_iald (f := (gR u 0)) hx hb hE.1 hP 1 0 rfl rfl (k_in (by decide)) dX6_warm_6 ?_
  obtain ⟨r7, h7r, hf⟩ := o_bs hf
  refine k_goi (va_runV (As := [.int ((gR u 0) ((4 : Int32).toNatClampNeg))]) (rest := []) ⟨hx, hb, hml, hown, hts⟩ (zX6_passes l D cy sa q rest H.size u ((gR u 0) ((4 : Int32).toNatClampNeg)) r7 h7r) (cwV 1 hts (gB_V wB386 wB387 wB388 wB5 wB389) rfl rfl rfl (by decide +kernel) ⟨Nat.le_of_ble_eq_true rfl, Nat.le_of_ble_eq_true rfl⟩) ⟨kP.blind, k_recv hE hP (ci := 6) (q0 := 0) rfl rfl, k_pre hP hD hS hE hA⟩ rfl rfl hl.1 rfl (lv_room (Nat.le_of_ble_eq_true rfl)) dX6_warm_7 ⟨Nat.zero_le _, Nat.zero_le _⟩) hD hS hA (fun H locs hP hD hS => ?_)
  refine lv_if_ne (tgt := 18) hx hb dX6_warm_10 (by decide) (fun c10 => ?_) (fun c10 => ?_)
  · have hf := o_in c10 hf
    refine lv_iload_n hx hb dX6_warm_18 rfl (lv_at hl 1 rfl) ?_
    refine lv_i2l (v := (a1.toInt64)) hx hb dX6_warm_19 rfl ?_
    refine lv_lconst (v := 0) hx hb dX6_warm_20 (by decide) ?_
    refine lv_aload_n hx hb dX6_warm_21 rfl (lv_at hl 0 rfl) ?_
    refine va_get (ci := 6) (v := .int (gI r7.2 5)) (C := RX6) (T := TX6) (N := 26) hx hb hts inlX6 hown hE.1 hP 0 rfl rfl 14 (by decide) (hts _ wB289) (fun _ h9 => h9) rfl dX6_warm_22 ?_
    refine lv_i2l (v := ((gI r7.2 5).toInt64)) hx hb dX6_warm_25 rfl ?_
    obtain ⟨r26, h26r, hf⟩ := o_bs hf
    refine k_goi (va_runS (As := [.long (a1.toInt64), .long 0, .long ((gI r7.2 5).toInt64)]) (rest := []) ⟨hx, hb, hml, hown, hts⟩ (zX6_in l D cy sa (WM q cy r7.2 ++ rest) H.size (a1.toInt64) 0 ((gI r7.2 5).toInt64)  r26  h26r) (va_cwS 3 hts (gB_S wB141 wB142 wB5 wB143) rfl rfl rfl (by decide +kernel) ⟨Nat.le_of_ble_eq_true rfl, Nat.le_of_ble_eq_true rfl⟩) ⟨kP.blind, k_pre hP hD hS hE hA⟩ rfl rfl hl.1 rfl (lv_room (Nat.le_of_ble_eq_true rfl)) dX6_warm_26 ⟨Nat.zero_le _, Nat.zero_le _⟩) hD hS hA (fun H locs hP hD hS => ?_)
    refine lv_if_eq (tgt := 41) hx hb dX6_warm_29 (by decide) (fun c29 => ?_) (fun c29 => ?_)
    · have hf := o_ip c29 hf
      refine lv_aload_n hx hb dX6_warm_41 rfl (lv_at hl 0 rfl) ?_
      obtain ⟨r42, h42r, hf⟩ := o_bs hf
      refine k_goi (va_runV (As := []) (rest := []) ⟨hx, hb, hml, hown, hts⟩ (zX6_bad l D cy sa q rest H.size r7.2  r42 h42r) (cwV 0 hts (gB_V wB144 wB145 wB146 wB5 wB147) rfl rfl rfl (by decide +kernel) ⟨Nat.le_of_ble_eq_true rfl, Nat.le_of_ble_eq_true rfl⟩) ⟨kP.blind, k_recv hE hP (ci := 6) (q0 := 0) rfl rfl, k_pre hP hD hS hE hA⟩ rfl rfl hl.1 rfl (lv_room (Nat.le_of_ble_eq_true rfl)) dX6_warm_42 ⟨Nat.zero_le _, Nat.zero_le _⟩) hD hS hA (fun H locs hP hD hS => ?_)
      obtain rfl := o_ret hf
      exact k_iret hx hb hr hP hD hS (Nat.zero_le _) (Nat.zero_le _) hlocks dX6_warm_45
    · have hf := o_in c29 hf
      refine lv_aload_n hx hb dX6_warm_32 rfl (lv_at hl 0 rfl) ?_
      refine va_get (ci := 6) (v := .ref (q 9)) (C := RX6) (T := TX6) (N := 26) hx hb hts inlX6 hown hE.1 hP 0 rfl rfl 13 (by decide) (hts _ wB92) (fun _ h9 => h9) rfl dX6_warm_33 ?_
      refine lv_iload_n hx hb dX6_warm_36 rfl (lv_at hl 1 rfl) ?_
      obtain ⟨hg37, hf⟩ := gd_s hf
      refine va_iald (f := (gR r7.2 8)) hx hb hE.1 hP 9 0 rfl rfl hg37 dX6_warm_37 ?_
      refine lv_goto (tgt := 45) hx hb dX6_warm_38 (by decide) ?_
      obtain rfl := o_ret hf
      exact k_iret hx hb hr hP hD hS (Nat.zero_le _) (Nat.zero_le _) hlocks dX6_warm_45
  · have hf := o_ip c10 hf
    refine lv_aload_n hx hb dX6_warm_13 rfl (lv_at hl 0 rfl) ?_
    obtain ⟨r14, h14r, hf⟩ := o_bs hf
    refine k_goi (va_runV (As := []) (rest := []) ⟨hx, hb, hml, hown, hts⟩ (zX6_no l D cy sa q rest H.size r7.2  r14 h14r) (cwV 0 hts (gB_V wB328 wB329 wB330 wB5 wB331) rfl rfl rfl (by decide +kernel) ⟨Nat.le_of_ble_eq_true rfl, Nat.le_of_ble_eq_true rfl⟩) ⟨kP.blind, k_recv hE hP (ci := 6) (q0 := 0) rfl rfl, k_pre hP hD hS hE hA⟩ rfl rfl hl.1 rfl (lv_room (Nat.le_of_ble_eq_true rfl)) dX6_warm_14 ⟨Nat.zero_le _, Nat.zero_le _⟩) hD hS hA (fun H locs hP hD hS => ?_)
    obtain rfl := o_ret hf
    exact k_iret hx hb hr hP hD hS (Nat.zero_le _) (Nat.zero_le _) hlocks dX6_warm_17
