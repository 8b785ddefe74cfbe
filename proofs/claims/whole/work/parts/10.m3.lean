noncomputable def mX5_harvest (u : KS) (a1 : Int32) (a2 : Int32) (a3 : Int32) (a4 : Int32) : Option (Int32 × KS) :=
  if a2 < 0 then
  ((mX5_bad u).bind fun r16 =>
  some (r16.1, r16.2))
  else
  ((mX5_isPlan a1 a2 a3 a4).bind fun r9 =>
  if r9 = 0 then
  ((mX5_bad u).bind fun r16 =>
  some (r16.1, r16.2))
  else
  ((mX4_make u a1 a2 a3 a4).bind fun r29 =>
  (mX5_at_ 5 (gA r29 1) a1).bind fun r44 =>
  (mX1_setShare r29 r44 (gL r29 1)).bind fun r54 =>
  some (1, r54)))
abbrev rmX5_harvest : Room := { frames := 4, cells := 0, slots := 0, locals := 99 }
set_option maxRecDepth 100000 in
set_option maxHeartbeats 4000000 in
theorem zX5_harvest (l : Launch) (D : va_G) (cy : Nat → ClassId) (sa : Nat → Nat) (q : Nat → Nat) (rest : va_W) (sz : Nat) (u : KS) (a1 : Int32) (a2 : Int32) (a3 : Int32) (a4 : Int32) (res : Int32 × KS) (hf : mX5_harvest u a1 a2 a3 a4 = some res) : kMi l yX5_harvest (wsK yX5_harvest cX5_harvest 5 (some .int)) rmX5_harvest D cy sa (WX q cy u ++ rest) sz [.ref (q 0), .int a1, .int a2, .int a3, .int a4] res.1 (WX q cy res.2 ++ rest) 0 0 := by
  refine kM_of (Qc := fun A => kQi D A res.1 (WX q cy res.2 ++ rest)) (cc := cX5_harvest) (maxL := 5) (ret := (some .int)) (by decide) (Nat.le_of_ble_eq_true rfl) ?_
  intro p e s m below meth c A hx hb hml hr hts hown hlocks hin hA hP hD hS hE hsz ls hl
  have hown : s.vm.findClass RX5 = some m.cls := hown
  obtain ⟨H, hH0⟩ : ∃ H, H = s.heap := ⟨_, rfl⟩
  obtain ⟨locs, hlocs0⟩ : ∃ locs : List Loc, locs = [] := ⟨_, rfl⟩
  have hP : va_P D vwCl (WX q cy u ++ rest) H := by rw [hH0]; exact hP
  have hS : va_S A s.heap H locs := by rw [hH0, hlocs0]; exact hS
  have hl : lv_has ls 5 [(0, .ref (q 0)), (1, .int a1), (2, .int a2), (3, .int a3), (4, .int a4)] := hl
  suffices hgoal : W p l e rmX5_harvest s m ([.ref (q 0), .int a1, .int a2, .int a3, .int a4] : List Value).toArray below meth c H locs 0 0 (MQ below (kQi D A res.1 (WX q cy res.2 ++ rest)) ([.ref (q 0), .int a1, .int a2, .int a3, .int a4] : List Value).toArray s 0 0 A) (F0 m 0 ls []) by rw [hH0, hlocs0] at hgoal; exact hgoal
  clear hH0 hlocs0
  unfold mX5_harvest at hf
  refine lv_iload_n hx hb dX5_harvest_0 rfl (lv_at hl 2 rfl) ?_
  refine lv_if_lt (tgt := 15) hx hb dX5_harvest_1 (by decide) (fun c1 => ?_) (fun c1 => ?_)
  · have hf := o_ip c1 hf
    refine lv_aload_n hx hb dX5_harvest_15 rfl (lv_at hl 0 rfl) ?_
    obtain ⟨r16, h16r, hf⟩ := o_bs hf
    refine k_goi (va_runV (As := []) (rest := []) ⟨hx, hb, hml, hown, hts⟩ (zX5_bad l D cy sa q rest H.size u  r16 h16r) (cwV 0 hts (gB_V wB113 wB114 wB115 wB2 wB116) rfl rfl rfl (by decide +kernel) ⟨Nat.le_of_ble_eq_true rfl, Nat.le_of_ble_eq_true rfl⟩) ⟨kP.blind, k_recv hE hP (ci := 5) (q0 := 0) rfl rfl, k_pre hP hD hS hE hA⟩ rfl rfl hl.1 rfl (lv_room (Nat.le_of_ble_eq_true rfl)) dX5_harvest_16 ⟨Nat.zero_le _, Nat.zero_le _⟩) hD hS hA (fun H locs hP hD hS => ?_)
    obtain rfl := o_ret hf
    exact k_iret hx hb hr hP hD hS (Nat.zero_le _) (Nat.zero_le _) hlocks dX5_harvest_19
  · have hf := o_in c1 hf
    refine lv_iload_n hx hb dX5_harvest_4 rfl (lv_at hl 1 rfl) ?_
    refine lv_iload_n hx hb dX5_harvest_5 rfl (lv_at hl 2 rfl) ?_
    refine lv_iload_n hx hb dX5_harvest_6 rfl (lv_at hl 3 rfl) ?_
    refine lv_iload hx hb dX5_harvest_7 (lv_at hl 4 rfl) ?_
    obtain ⟨r9, h9r, hf⟩ := o_bs hf
    refine k_goi (va_runS (As := [.int a1, .int a2, .int a3, .int a4]) (rest := []) ⟨hx, hb, hml, hown, hts⟩ (zX5_isPlan l D cy sa (WX q cy u ++ rest) H.size a1 a2 a3 a4  r9  h9r) (va_cwS 4 hts (gB_S wB739 wB740 wB2 wB741) rfl rfl rfl (by decide +kernel) ⟨Nat.le_of_ble_eq_true rfl, Nat.le_of_ble_eq_true rfl⟩) ⟨kP.blind, k_pre hP hD hS hE hA⟩ rfl rfl hl.1 rfl (lv_room (Nat.le_of_ble_eq_true rfl)) dX5_harvest_9 ⟨Nat.zero_le _, Nat.zero_le _⟩) hD hS hA (fun H locs hP hD hS => ?_)
    refine lv_if_ne (tgt := 20) hx hb dX5_harvest_12 (by decide) (fun c12 => ?_) (fun c12 => ?_)
    · have hf := o_in c12 hf
      refine lv_aload_n hx hb dX5_harvest_20 rfl (lv_at hl 0 rfl) ?_
      refine va_get (ci := 5) (v := .ref (q 19)) (C := RX5) (T := TX5) (N := 9) hx hb hts inlX5 hown hE.1 hP 0 rfl rfl 4 (by decide) (hts _ wB29) (fun _ h9 => h9) rfl dX5_harvest_21 ?_
      refine lv_iload_n hx hb dX5_harvest_24 rfl (lv_at hl 1 rfl) ?_
      refine lv_iload_n hx hb dX5_harvest_25 rfl (lv_at hl 2 rfl) ?_
      refine lv_iload_n hx hb dX5_harvest_26 rfl (lv_at hl 3 rfl) ?_
      refine lv_iload hx hb dX5_harvest_27 (lv_at hl 4 rfl) ?_
      obtain ⟨r29, h29r, hf⟩ := o_bs hf
      refine k_gov (va_runV (As := [.int a1, .int a2, .int a3, .int a4]) (rest := []) ⟨hx, hb, hml, hown, hts⟩ (zX4_make l D cy sa q rest H.size u a1 a2 a3 a4 r29 h29r) (cwV 4 hts (gB_V wB742 wB743 wB744 wB28 wB745) rfl rfl rfl (by decide +kernel) ⟨Nat.le_of_ble_eq_true rfl, Nat.le_of_ble_eq_true rfl⟩) ⟨kP.blind, k_recv hE hP (ci := 4) (q0 := 19) rfl rfl, k_pre hP hD hS hE hA⟩ rfl rfl hl.1 rfl (lv_room (Nat.le_of_ble_eq_true rfl)) dX5_harvest_29 ⟨Nat.zero_le _, Nat.zero_le _⟩) hD hS hA (fun H locs hP hD hS => ?_)
      refine lv_aload_n hx hb dX5_harvest_32 rfl (lv_at hl 0 rfl) ?_
      refine va_get (ci := 5) (v := .ref (q 21)) (C := RX5) (T := TX5) (N := 9) hx hb hts inlX5 hown hE.1 hP 0 rfl rfl 5 (by decide) (hts _ wB33) (fun _ h9 => h9) rfl dX5_harvest_33 ?_
      refine lv_aload_n hx hb dX5_harvest_36 rfl (lv_at hl 0 rfl) ?_
      refine va_get (ci := 5) (v := .ref (q 19)) (C := RX5) (T := TX5) (N := 9) hx hb hts inlX5 hown hE.1 hP 0 rfl rfl 4 (by decide) (hts _ wB29) (fun _ h9 => h9) rfl dX5_harvest_37 ?_
      refine va_get (ci := 4) (v := .ref (q 20)) (C := RX4) (T := TX4) (N := 3) hx hb hts inlX4 hown hE.1 hP 19 rfl rfl 0 (by decide) (hts _ wB737) (fun _ h9 => h9) rfl dX5_harvest_40 ?_
      refine lv_iload_n hx hb dX5_harvest_43 rfl (lv_at hl 1 rfl) ?_
      obtain ⟨r44, h44r, hf⟩ := o_bs hf
      refine k_gol (va_runS (As := [.ref (q 20), .int a1]) (rest := [.ref (q 21)]) ⟨hx, hb, hml, hown, hts⟩ (zX5_at_ l D cy sa (WX q cy r29 ++ rest) H.size 20 (q 20) 5 (gA r29 1) a1 r44 rfl h44r) (va_cwS 2 hts (gB_S wB761 wB634 wB2 wB635) rfl rfl rfl (by decide +kernel) ⟨Nat.le_of_ble_eq_true rfl, Nat.le_of_ble_eq_true rfl⟩) ⟨kP.blind, k_pre hP hD hS hE hA⟩ rfl rfl hl.1 rfl (lv_room (Nat.le_of_ble_eq_true rfl)) dX5_harvest_44 ⟨Nat.zero_le _, Nat.zero_le _⟩) hD hS hA (fun H locs hP hD hS => ?_)
      refine lv_aload_n hx hb dX5_harvest_47 rfl (lv_at hl 0 rfl) ?_
      refine va_get (ci := 5) (v := .ref (q 19)) (C := RX5) (T := TX5) (N := 9) hx hb hts inlX5 hown hE.1 hP 0 rfl rfl 4 (by decide) (hts _ wB29) (fun _ h9 => h9) rfl dX5_harvest_48 ?_
      refine va_get (ci := 4) (v := .long (gL r29 1)) (C := RX4) (T := TX4) (N := 3) hx hb hts inlX4 hown hE.1 hP 19 rfl rfl 1 (by decide) (hts _ wB738) (fun _ h9 => h9) rfl dX5_harvest_51 ?_
      obtain ⟨r54, h54r, hf⟩ := o_bs hf
      refine k_gov (va_runV (As := [.long r44, .long (gL r29 1)]) (rest := []) ⟨hx, hb, hml, hown, hts⟩ (zX1_setShare l D cy sa q rest H.size r29 r44 (gL r29 1) r54 h54r) (cwV 2 hts (gB_V wB546 wB547 wB548 wB32 wB549) rfl rfl rfl (by decide +kernel) ⟨Nat.le_of_ble_eq_true rfl, Nat.le_of_ble_eq_true rfl⟩) ⟨kP.blind, k_recv hE hP (ci := 1) (q0 := 21) rfl rfl, k_pre hP hD hS hE hA⟩ rfl rfl hl.1 rfl (lv_room (Nat.le_of_ble_eq_true rfl)) dX5_harvest_54 ⟨Nat.zero_le _, Nat.zero_le _⟩) hD hS hA (fun H locs hP hD hS => ?_)
      refine lv_iconst (v := 1) hx hb dX5_harvest_57 (by decide) ?_
      obtain rfl := o_ret hf
      exact k_iret hx hb hr hP hD hS (Nat.zero_le _) (Nat.zero_le _) hlocks dX5_harvest_58
    · have hf := o_ip c12 hf
      refine lv_aload_n hx hb dX5_harvest_15 rfl (lv_at hl 0 rfl) ?_
      obtain ⟨r16, h16r, hf⟩ := o_bs hf
      refine k_goi (va_runV (As := []) (rest := []) ⟨hx, hb, hml, hown, hts⟩ (zX5_bad l D cy sa q rest H.size u  r16 h16r) (cwV 0 hts (gB_V wB113 wB114 wB115 wB2 wB116) rfl rfl rfl (by decide +kernel) ⟨Nat.le_of_ble_eq_true rfl, Nat.le_of_ble_eq_true rfl⟩) ⟨kP.blind, k_recv hE hP (ci := 5) (q0 := 0) rfl rfl, k_pre hP hD hS hE hA⟩ rfl rfl hl.1 rfl (lv_room (Nat.le_of_ble_eq_true rfl)) dX5_harvest_16 ⟨Nat.zero_le _, Nat.zero_le _⟩) hD hS hA (fun H locs hP hD hS => ?_)
      obtain rfl := o_ret hf
      exact k_iret hx hb hr hP hD hS (Nat.zero_le _) (Nat.zero_le _) hlocks dX5_harvest_19
noncomputable def mX5_hidden_s25 (u : KS) (s25 : Int32 × Int32) : Option ((Int32) ⊕ (Int32 × Int32)) :=
  if 7 ≤ s25.2 then
  (some (.inl s25.1))
  else
  ((mX5_faultOf s25.2 3).bind fun r37 =>
  (mX0_givesNothing u r37).bind fun r40 =>
  if r40 = 0 then
  (some (.inr (s25.1, (s25.2 + 1))))
  else
  (some (.inr ((s25.1 ||| (((1 : Int32) <<< (s25.2 &&& 31)) : Int32)), (s25.2 + 1)))))
noncomputable def mX5_hidden (u : KS) : Option (Int32 × KS) :=
  (mX5_dayIsFaulty u).bind fun r1 =>
  if r1.1 = 0 then
  ((mX0_heat r1.2 100).bind fun r18 =>
  (lpF (mX5_hidden_s25 r18) (0, 0)).bind fun e25 =>
  (mX5_at 4 (gR r18 2) 0).bind fun r70 =>
  (mX0_heat r18 r70).bind fun r73 =>
  some (e25, r73))
  else
  ((mX5_no r1.2).bind fun r8 =>
  some (r8.1, r8.2))
abbrev rmX5_hidden : Room := { frames := 10, cells := 0, slots := 0, locals := 217 }
set_option maxRecDepth 100000 in
set_option maxHeartbeats 4000000 in
theorem zX5_hidden (l : Launch) (D : va_G) (cy : Nat → ClassId) (sa : Nat → Nat) (q : Nat → Nat) (rest : va_W) (sz : Nat) (u : KS) (res : Int32 × KS) (hf : mX5_hidden u = some res) : kMi l yX5_hidden (wsK yX5_hidden cX5_hidden 3 (some .int)) rmX5_hidden D cy sa (WX q cy u ++ rest) sz [.ref (q 0)] res.1 (WX q cy res.2 ++ rest) 0 0 := by
  refine kM_of (Qc := fun A => kQi D A res.1 (WX q cy res.2 ++ rest)) (cc := cX5_hidden) (maxL := 3) (ret := (some .int)) (by decide) (Nat.le_of_ble_eq_true rfl) ?_
  intro p e s m below meth c A hx hb hml hr hts hown hlocks hin hA hP hD hS hE hsz ls hl
  have hown : s.vm.findClass RX5 = some m.cls := hown
  obtain ⟨H, hH0⟩ : ∃ H, H = s.heap := ⟨_, rfl⟩
  obtain ⟨locs, hlocs0⟩ : ∃ locs : List Loc, locs = [] := ⟨_, rfl⟩
  have hP : va_P D vwCl (WX q cy u ++ rest) H := by rw [hH0]; exact hP
  have hS : va_S A s.heap H locs := by rw [hH0, hlocs0]; exact hS
  have hl : lv_has ls 3 [(0, .ref (q 0))] := hl
  suffices hgoal : W p l e rmX5_hidden s m ([.ref (q 0)] : List Value).toArray below meth c H locs 0 0 (MQ below (kQi D A res.1 (WX q cy res.2 ++ rest)) ([.ref (q 0)] : List Value).toArray s 0 0 A) (F0 m 0 ls []) by rw [hH0, hlocs0] at hgoal; exact hgoal
  clear hH0 hlocs0
  unfold mX5_hidden at hf
  refine lv_aload_n hx hb dX5_hidden_0 rfl (lv_at hl 0 rfl) ?_
  obtain ⟨r1, h1r, hf⟩ := o_bs hf
  refine k_goi (va_runV (As := []) (rest := []) ⟨hx, hb, hml, hown, hts⟩ (zX5_dayIsFaulty l D cy sa q rest H.size u  r1 h1r) (cwV 0 hts (gB_V wB316 wB317 wB318 wB2 wB319) rfl rfl rfl (by decide +kernel) ⟨Nat.le_of_ble_eq_true rfl, Nat.le_of_ble_eq_true rfl⟩) ⟨kP.blind, k_recv hE hP (ci := 5) (q0 := 0) rfl rfl, k_pre hP hD hS hE hA⟩ rfl rfl hl.1 rfl (lv_room (Nat.le_of_ble_eq_true rfl)) dX5_hidden_1 ⟨Nat.zero_le _, Nat.zero_le _⟩) hD hS hA (fun H locs hP hD hS => ?_)
  refine lv_if_eq (tgt := 12) hx hb dX5_hidden_4 (by decide) (fun c4 => ?_) (fun c4 => ?_)
  · have hf := o_ip c4 hf
    refine lv_aload_n hx hb dX5_hidden_12 rfl (lv_at hl 0 rfl) ?_
    refine va_get (ci := 5) (v := .ref (q 10)) (C := RX5) (T := TX5) (N := 9) hx hb hts inlX5 hown hE.1 hP 0 rfl rfl 2 (by decide) (hts _ wB21) (fun _ h9 => h9) rfl dX5_hidden_13 ?_
    refine lv_bipush (v := 100) hx hb dX5_hidden_16 (by decide) ?_
    obtain ⟨r18, h18r, hf⟩ := o_bs hf
    refine k_gov (va_runV (As := [.int 100]) (rest := []) ⟨hx, hb, hml, hown, hts⟩ (zX0_heat l D cy sa q rest H.size r1.2 100 r18 h18r) (cwV 1 hts (gB_V wB272 wB273 wB274 wB20 wB275) rfl rfl rfl (by decide +kernel) ⟨Nat.le_of_ble_eq_true rfl, Nat.le_of_ble_eq_true rfl⟩) ⟨kP.blind, k_recv hE hP (ci := 0) (q0 := 10) rfl rfl, k_pre hP hD hS hE hA⟩ rfl rfl hl.1 rfl (lv_room (Nat.le_of_ble_eq_true rfl)) dX5_hidden_18 ⟨Nat.zero_le _, Nat.zero_le _⟩) hD hS hA (fun H locs hP hD hS => ?_)
    refine lv_iconst (v := 0) hx hb dX5_hidden_21 (by decide) ?_
    refine lv_istore_n (lv' := [(1, .int 0), (0, .ref (q 0))]) hx hb dX5_hidden_22 rfl hl (by decide) rfl (fun ls hl => ?_)
    refine lv_iconst (v := 0) hx hb dX5_hidden_23 (by decide) ?_
    refine lv_istore_n (lv' := [(2, .int 0), (1, .int 0), (0, .ref (q 0))]) hx hb dX5_hidden_24 rfl hl (by decide) rfl (fun ls hl => ?_)
    have L25 : ∀ (n25v : Nat) (s25 : Int32 × Int32) (e25 : Int32), lpO (mX5_hidden_s25 r18) n25v s25 = some e25 → ∀ (H : Heap) (locs : List Loc) (ls : Array Slot), va_P D vwCl (WX q cy r18 ++ rest) H → va_D A (WX q cy r18 ++ rest) → va_S A s.heap H locs → lv_has ls 3 [(0, .ref (q 0)), (1, .int s25.1), (2, .int s25.2)] → (∀ (H : Heap) (locs : List Loc) (ls : Array Slot), va_P D vwCl (WX q cy r18 ++ rest) H → va_D A (WX q cy r18 ++ rest) → va_S A s.heap H locs → lv_has ls 3 [(0, .ref (q 0)), (1, .int e25)] → W p l e rmX5_hidden s m ([.ref (q 0)] : List Value).toArray below meth c H locs 0 0 (MQ below (kQi D A res.1 (WX q cy res.2 ++ rest)) ([.ref (q 0)] : List Value).toArray s 0 0 A) (F0 m 58 ls [])) → W p l e rmX5_hidden s m ([.ref (q 0)] : List Value).toArray below meth c H locs 0 0 (MQ below (kQi D A res.1 (WX q cy res.2 ++ rest)) ([.ref (q 0)] : List Value).toArray s 0 0 A) (F0 m 25 ls []) := by
      intro n25v
      induction n25v with
      | zero => intro s25 e25 h; exact (lpO_z h).elim
      | succ n25v ih25 =>
        intro s25 e25 h25z H locs ls hP hD hS hl K25_0
        obtain ⟨x25, hf, h25z⟩ := lpO_s h25z
        unfold mX5_hidden_s25 at hf
        refine lv_iload_n hx hb dX5_hidden_25 rfl (lv_at hl 2 rfl) ?_
        refine lv_bipush (v := 7) hx hb dX5_hidden_26 (by decide) ?_
        refine lv_icmp_ge (tgt := 58) hx hb dX5_hidden_28 (by decide) (fun c28 => ?_) (fun c28 => ?_)
        · have hf := o_ip c28 hf
          obtain rfl := o_ret hf
          obtain rfl := lpK_l h25z
          exact K25_0 _ _ _ hP hD hS (lv_sub hl [0, 1] rfl)
        · have hf := o_in c28 hf
          refine lv_aload_n hx hb dX5_hidden_31 rfl (lv_at hl 0 rfl) ?_
          refine va_get (ci := 5) (v := .ref (q 10)) (C := RX5) (T := TX5) (N := 9) hx hb hts inlX5 hown hE.1 hP 0 rfl rfl 2 (by decide) (hts _ wB21) (fun _ h9 => h9) rfl dX5_hidden_32 ?_
          refine lv_iload_n hx hb dX5_hidden_35 rfl (lv_at hl 2 rfl) ?_
          refine lv_iconst (v := 3) hx hb dX5_hidden_36 (by decide) ?_
          obtain ⟨r37, h37r, hf⟩ := o_bs hf
          refine k_goi (va_runS (As := [.int s25.2, .int 3]) (rest := [.ref (q 10)]) ⟨hx, hb, hml, hown, hts⟩ (zX5_faultOf l D cy sa (WX q cy r18 ++ rest) H.size s25.2 3  r37  h37r) (va_cwS 2 hts (gB_S wB369 wB370 wB2 wB371) rfl rfl rfl (by decide +kernel) ⟨Nat.le_of_ble_eq_true rfl, Nat.le_of_ble_eq_true rfl⟩) ⟨kP.blind, k_pre hP hD hS hE hA⟩ rfl rfl hl.1 rfl (lv_room (Nat.le_of_ble_eq_true rfl)) dX5_hidden_37 ⟨Nat.zero_le _, Nat.zero_le _⟩) hD hS hA (fun H locs hP hD hS => ?_)
          obtain ⟨r40, h40r, hf⟩ := o_bs hf
          refine k_goi (va_runV (As := [.int r37]) (rest := []) ⟨hx, hb, hml, hown, hts⟩ (zX0_givesNothing l D cy sa q rest H.size r18 r37 r40 h40r) (cwV 1 hts (gB_V wB688 wB689 wB690 wB20 wB691) rfl rfl rfl (by decide +kernel) ⟨Nat.le_of_ble_eq_true rfl, Nat.le_of_ble_eq_true rfl⟩) ⟨kP.blind, k_recv hE hP (ci := 0) (q0 := 10) rfl rfl, k_pre hP hD hS hE hA⟩ rfl rfl hl.1 rfl (lv_room (Nat.le_of_ble_eq_true rfl)) dX5_hidden_40 ⟨Nat.zero_le _, Nat.zero_le _⟩) hD hS hA (fun H locs hP hD hS => ?_)
          refine lv_if_eq (tgt := 52) hx hb dX5_hidden_43 (by decide) (fun c43 => ?_) (fun c43 => ?_)
          · have hf := o_ip c43 hf
            refine lv_iinc (v := (s25.2 + 1)) (lv' := [(2, .int (s25.2 + 1)), (0, .ref (q 0)), (1, .int s25.1)]) hx hb dX5_hidden_52 hl (k := 2) rfl (by rfl) (by decide) rfl (fun ls hl => ?_)
            refine lv_goto (tgt := 25) hx hb dX5_hidden_55 (by decide) ?_
            obtain rfl := o_ret hf
            exact ih25 _ _ (lpK_r h25z) _ _ _ hP hD hS (lv_sub hl [1, 2, 0] rfl) K25_0
          · have hf := o_in c43 hf
            refine lv_iload_n hx hb dX5_hidden_46 rfl (lv_at hl 1 rfl) ?_
            refine lv_iconst (v := 1) hx hb dX5_hidden_47 (by decide) ?_
            refine lv_iload_n hx hb dX5_hidden_48 rfl (lv_at hl 2 rfl) ?_
            refine lv_ishl hx hb dX5_hidden_49 ?_
            refine lv_ior hx hb dX5_hidden_50 ?_
            refine lv_istore_n (lv' := [(1, .int (s25.1 ||| (((1 : Int32) <<< (s25.2 &&& 31)) : Int32))), (0, .ref (q 0)), (2, .int s25.2)]) hx hb dX5_hidden_51 rfl hl (by decide) rfl (fun ls hl => ?_)
            refine lv_iinc (v := (s25.2 + 1)) (lv' := [(2, .int (s25.2 + 1)), (1, .int (s25.1 ||| (((1 : Int32) <<< (s25.2 &&& 31)) : Int32))), (0, .ref (q 0))]) hx hb dX5_hidden_52 hl (k := 2) rfl (by rfl) (by decide) rfl (fun ls hl => ?_)
            refine lv_goto (tgt := 25) hx hb dX5_hidden_55 (by decide) ?_
            obtain rfl := o_ret hf
            exact ih25 _ _ (lpK_r h25z) _ _ _ hP hD hS (lv_sub hl [2, 1, 0] rfl) K25_0
    obtain ⟨e25, h25q, hf⟩ := o_bs hf
    obtain ⟨n25v, h25q⟩ := lpF_ex h25q
    refine L25 n25v _ e25 h25q _ _ _ hP hD hS (lv_sub hl [2, 1, 0] rfl) ?_
    intro H locs ls hP hD hS hl
    refine lv_aload_n hx hb dX5_hidden_58 rfl (lv_at hl 0 rfl) ?_
    refine va_get (ci := 5) (v := .ref (q 10)) (C := RX5) (T := TX5) (N := 9) hx hb hts inlX5 hown hE.1 hP 0 rfl rfl 2 (by decide) (hts _ wB21) (fun _ h9 => h9) rfl dX5_hidden_59 ?_
    refine lv_aload_n hx hb dX5_hidden_62 rfl (lv_at hl 0 rfl) ?_
    refine va_get (ci := 5) (v := .ref (q 3)) (C := RX5) (T := TX5) (N := 9) hx hb hts inlX5 hown hE.1 hP 0 rfl rfl 0 (by decide) (hts _ wB16) (fun _ h9 => h9) rfl dX5_hidden_63 ?_
    refine va_get (ci := 3) (v := .ref (q 5)) (C := RX3) (T := TX3) (N := 9) hx hb hts inlX3 hown hE.1 hP 3 rfl rfl 2 (by decide) (hts _ wB177) (fun _ h9 => h9) rfl dX5_hidden_66 ?_
    refine lv_iconst (v := 0) hx hb dX5_hidden_69 (by decide) ?_
    obtain ⟨r70, h70r, hf⟩ := o_bs hf
    refine k_goi (va_runS (As := [.ref (q 5), .int 0]) (rest := [.ref (q 10)]) ⟨hx, hb, hml, hown, hts⟩ (zX5_at l D cy sa (WX q cy r18 ++ rest) H.size 5 (q 5) 4 (gR r18 2) 0 r70 rfl h70r) (va_cwS 2 hts (gB_S wB121 wB122 wB2 wB123) rfl rfl rfl (by decide +kernel) ⟨Nat.le_of_ble_eq_true rfl, Nat.le_of_ble_eq_true rfl⟩) ⟨kP.blind, k_pre hP hD hS hE hA⟩ rfl rfl hl.1 rfl (lv_room (Nat.le_of_ble_eq_true rfl)) dX5_hidden_70 ⟨Nat.zero_le _, Nat.zero_le _⟩) hD hS hA (fun H locs hP hD hS => ?_)
    obtain ⟨r73, h73r, hf⟩ := o_bs hf
    refine k_gov (va_runV (As := [.int r70]) (rest := []) ⟨hx, hb, hml, hown, hts⟩ (zX0_heat l D cy sa q rest H.size r18 r70 r73 h73r) (cwV 1 hts (gB_V wB272 wB273 wB274 wB20 wB275) rfl rfl rfl (by decide +kernel) ⟨Nat.le_of_ble_eq_true rfl, Nat.le_of_ble_eq_true rfl⟩) ⟨kP.blind, k_recv hE hP (ci := 0) (q0 := 10) rfl rfl, k_pre hP hD hS hE hA⟩ rfl rfl hl.1 rfl (lv_room (Nat.le_of_ble_eq_true rfl)) dX5_hidden_73 ⟨Nat.zero_le _, Nat.zero_le _⟩) hD hS hA (fun H locs hP hD hS => ?_)
    refine lv_iload_n hx hb dX5_hidden_76 rfl (lv_at hl 1 rfl) ?_
    obtain rfl := o_ret hf
    exact k_iret hx hb hr hP hD hS (Nat.zero_le _) (Nat.zero_le _) hlocks dX5_hidden_77
  · have hf := o_in c4 hf
    refine lv_aload_n hx hb dX5_hidden_7 rfl (lv_at hl 0 rfl) ?_
    obtain ⟨r8, h8r, hf⟩ := o_bs hf
    refine k_goi (va_runV (As := []) (rest := []) ⟨hx, hb, hml, hown, hts⟩ (zX5_no l D cy sa q rest H.size r1.2  r8 h8r) (cwV 0 hts (gB_V wB320 wB321 wB322 wB2 wB323) rfl rfl rfl (by decide +kernel) ⟨Nat.le_of_ble_eq_true rfl, Nat.le_of_ble_eq_true rfl⟩) ⟨kP.blind, k_recv hE hP (ci := 5) (q0 := 0) rfl rfl, k_pre hP hD hS hE hA⟩ rfl rfl hl.1 rfl (lv_room (Nat.le_of_ble_eq_true rfl)) dX5_hidden_8 ⟨Nat.zero_le _, Nat.zero_le _⟩) hD hS hA (fun H locs hP hD hS => ?_)
    obtain rfl := o_ret hf
    exact k_iret hx hb hr hP hD hS (Nat.zero_le _) (Nat.zero_le _) hlocks dX5_hidden_11
noncomputable def mX5_isCut (a0 : Int32) : Option (Int32) :=
  if a0 = (-1) then
  (some 1)
  else
  (if a0 < 0 then
  (some 0)
  else
  (if 4 ≤ a0 then
  (some 0)
  else
  (some 1)))
abbrev rmX5_isCut : Room := { frames := 0, cells := 0, slots := 0, locals := 0 }
set_option maxRecDepth 100000 in
set_option maxHeartbeats 4000000 in
theorem zX5_isCut (l : Launch) (D : va_G) (cy : Nat → ClassId) (sa : Nat → Nat) (ws : va_W) (sz : Nat) (a0 : Int32) (res : Int32) (hf : mX5_isCut a0 = some res) : kMi l yX5_isCut (wsK yX5_isCut cX5_isCut 1 (some .boolean)) rmX5_isCut D cy sa (ws) sz [.int a0] res (ws) 0 0 := by
  refine kM_of (Qc := fun A => kQi D A res (ws)) (cc := cX5_isCut) (maxL := 1) (ret := (some .boolean)) (by decide) (Nat.le_of_ble_eq_true rfl) ?_
  intro p e s m below meth c A hx hb hml hr hts hown hlocks hin hA hP hD hS hE hsz ls hl
  have hown : s.vm.findClass RX5 = some m.cls := hown
  obtain ⟨H, hH0⟩ : ∃ H, H = s.heap := ⟨_, rfl⟩
  obtain ⟨locs, hlocs0⟩ : ∃ locs : List Loc, locs = [] := ⟨_, rfl⟩
  have hP : va_P D vwCl (ws) H := by rw [hH0]; exact hP
  have hS : va_S A s.heap H locs := by rw [hH0, hlocs0]; exact hS
  have hl : lv_has ls 1 [(0, .int a0)] := hl
  suffices hgoal : W p l e rmX5_isCut s m ([.int a0] : List Value).toArray below meth c H locs 0 0 (MQ below (kQi D A res (ws)) ([.int a0] : List Value).toArray s 0 0 A) (F0 m 0 ls []) by rw [hH0, hlocs0] at hgoal; exact hgoal
  clear hH0 hlocs0
  unfold mX5_isCut at hf
  refine lv_iload_n hx hb dX5_isCut_0 rfl (lv_at hl 0 rfl) ?_
  refine lv_iconst (v := (-1)) hx hb dX5_isCut_1 (by decide) ?_
  refine lv_icmp_eq (tgt := 14) hx hb dX5_isCut_2 (by decide) (fun c2 => ?_) (fun c2 => ?_)
  · have hf := o_ip c2 hf
    refine lv_iconst (v := 1) hx hb dX5_isCut_14 (by decide) ?_
    refine lv_goto (tgt := 19) hx hb dX5_isCut_15 (by decide) ?_
    obtain rfl := o_ret hf
    exact k_zret (v := 1) hx hb hr hP hD hS rfl (Nat.zero_le _) (Nat.zero_le _) hlocks dX5_isCut_19
  · have hf := o_in c2 hf
    refine lv_iload_n hx hb dX5_isCut_5 rfl (lv_at hl 0 rfl) ?_
    refine lv_if_lt (tgt := 18) hx hb dX5_isCut_6 (by decide) (fun c6 => ?_) (fun c6 => ?_)
    · have hf := o_ip c6 hf
      refine lv_iconst (v := 0) hx hb dX5_isCut_18 (by decide) ?_
      obtain rfl := o_ret hf
      exact k_zret (v := 0) hx hb hr hP hD hS rfl (Nat.zero_le _) (Nat.zero_le _) hlocks dX5_isCut_19
    · have hf := o_in c6 hf
      refine lv_iload_n hx hb dX5_isCut_9 rfl (lv_at hl 0 rfl) ?_
      refine lv_iconst (v := 4) hx hb dX5_isCut_10 (by decide) ?_
      refine lv_icmp_ge (tgt := 18) hx hb dX5_isCut_11 (by decide) (fun c11 => ?_) (fun c11 => ?_)
      · have hf := o_ip c11 hf
        refine lv_iconst (v := 0) hx hb dX5_isCut_18 (by decide) ?_
        obtain rfl := o_ret hf
        exact k_zret (v := 0) hx hb hr hP hD hS rfl (Nat.zero_le _) (Nat.zero_le _) hlocks dX5_isCut_19
      · have hf := o_in c11 hf
        refine lv_iconst (v := 1) hx hb dX5_isCut_14 (by decide) ?_
        refine lv_goto (tgt := 19) hx hb dX5_isCut_15 (by decide) ?_
        obtain rfl := o_ret hf
        exact k_zret (v := 1) hx hb hr hP hD hS rfl (Nat.zero_le _) (Nat.zero_le _) hlocks dX5_isCut_19
noncomputable def mX5_isSetting (a0 : Int32) (a1 : Int32) : Option (Int32) :=
  if a0 < 0 then
  (some 0)
  else
  (if 4 ≤ a0 then
  (some 0)
  else
  (if 4 ≤ a0 then
  (some 0)
  else
  (gd (inb a0 4) (if a1 < ([(0 : Int32), 1, 1, 0].getD (a0.toNatClampNeg) 0) then
  (some 0)
  else
  (gd (inb a0 4) (if ([(100 : Int32), 40, 9, 99].getD (a0.toNatClampNeg) 0) < a1 then
  (some 0)
  else
  (some 1)))))))
abbrev rmX5_isSetting : Room := { frames := 0, cells := 0, slots := 0, locals := 0 }
set_option maxRecDepth 100000 in
set_option maxHeartbeats 4000000 in
theorem zX5_isSetting (l : Launch) (D : va_G) (cy : Nat → ClassId) (sa : Nat → Nat) (ws : va_W) (sz : Nat) (a0 : Int32) (a1 : Int32) (res : Int32) (hf : mX5_isSetting a0 a1 = some res) : kMi l yX5_isSetting (wsK yX5_isSetting cX5_isSetting 3 (some .boolean)) rmX5_isSetting D cy sa (ws) sz [.int a0, .int a1] res (ws) 0 0 := by
  refine kM_of (Qc := fun A => kQi D A res (ws)) (cc := cX5_isSetting) (maxL := 3) (ret := (some .boolean)) (by decide) (Nat.le_of_ble_eq_true rfl) ?_
  intro p e s m below meth c A hx hb hml hr hts hown hlocks hin hA hP hD hS hE hsz ls hl
  have hown : s.vm.findClass RX5 = some m.cls := hown
  obtain ⟨H, hH0⟩ : ∃ H, H = s.heap := ⟨_, rfl⟩
  obtain ⟨locs, hlocs0⟩ : ∃ locs : List Loc, locs = [] := ⟨_, rfl⟩
  have hP : va_P D vwCl (ws) H := by rw [hH0]; exact hP
  have hS : va_S A s.heap H locs := by rw [hH0, hlocs0]; exact hS
  have hl : lv_has ls 3 [(0, .int a0), (1, .int a1)] := hl
  suffices hgoal : W p l e rmX5_isSetting s m ([.int a0, .int a1] : List Value).toArray below meth c H locs 0 0 (MQ below (kQi D A res (ws)) ([.int a0, .int a1] : List Value).toArray s 0 0 A) (F0 m 0 ls []) by rw [hH0, hlocs0] at hgoal; exact hgoal
  clear hH0 hlocs0
  unfold mX5_isSetting at hf
  refine lv_iload_n hx hb dX5_isSetting_0 rfl (lv_at hl 0 rfl) ?_
  refine lv_if_lt (tgt := 24) hx hb dX5_isSetting_1 (by decide) (fun c1 => ?_) (fun c1 => ?_)
  · have hf := o_ip c1 hf
    refine lv_iconst (v := 0) hx hb dX5_isSetting_24 (by decide) ?_
    refine lv_istore_n (lv' := [(2, .int 0), (0, .int a0), (1, .int a1)]) hx hb dX5_isSetting_25 rfl hl (by decide) rfl (fun ls hl => ?_)
    refine lv_iload_n hx hb dX5_isSetting_26 rfl (lv_at hl 0 rfl) ?_
    refine lv_if_eq (tgt := 52) hx hb dX5_isSetting_27 (by decide) (fun c27 => ?_) (fun c27 => absurd c27 (by decide))
    refine lv_iconst (v := 0) hx hb dX5_isSetting_52 (by decide) ?_
    obtain rfl := o_ret hf
    exact k_zret (v := 0) hx hb hr hP hD hS rfl (Nat.zero_le _) (Nat.zero_le _) hlocks dX5_isSetting_53
  · have hf := o_in c1 hf
    refine lv_iload_n hx hb dX5_isSetting_4 rfl (lv_at hl 0 rfl) ?_
    refine va_gets hx hb hE.2.2.2.2.1 hS hown (hts _ wB339) (fun _ h9 => h9) dX5_isSetting_5 ?_
    refine va_tlen (v := 4) hx hb hE.2.2.2.2.2.1 hS rfl dX5_isSetting_8 ?_
    refine lv_icmp_ge (tgt := 24) hx hb dX5_isSetting_9 (by decide) (fun c9 => ?_) (fun c9 => ?_)
    · have hf := o_ip c9 hf
      refine lv_iconst (v := 0) hx hb dX5_isSetting_24 (by decide) ?_
      refine lv_istore_n (lv' := [(2, .int 0), (0, .int a0), (1, .int a1)]) hx hb dX5_isSetting_25 rfl hl (by decide) rfl (fun ls hl => ?_)
      refine lv_iload_n hx hb dX5_isSetting_26 rfl (lv_at hl 0 rfl) ?_
      refine lv_if_eq (tgt := 52) hx hb dX5_isSetting_27 (by decide) (fun c27 => ?_) (fun c27 => absurd c27 (by decide))
      refine lv_iconst (v := 0) hx hb dX5_isSetting_52 (by decide) ?_
      obtain rfl := o_ret hf
      exact k_zret (v := 0) hx hb hr hP hD hS rfl (Nat.zero_le _) (Nat.zero_le _) hlocks dX5_isSetting_53
    · have hf := o_in c9 hf
      refine lv_iload_n hx hb dX5_isSetting_12 rfl (lv_at hl 0 rfl) ?_
      refine va_gets hx hb hE.2.2.2.2.2.2.1 hS hown (hts _ wB340) (fun _ h9 => h9) dX5_isSetting_13 ?_
      refine va_tlen (v := 4) hx hb hE.2.2.2.2.2.2.2.1 hS rfl dX5_isSetting_16 ?_
      refine lv_icmp_ge (tgt := 24) hx hb dX5_isSetting_17 (by decide) (fun c17 => ?_) (fun c17 => ?_)
      · have hf := o_ip c17 hf
        refine lv_iconst (v := 0) hx hb dX5_isSetting_24 (by decide) ?_
        refine lv_istore_n (lv' := [(2, .int 0), (0, .int a0), (1, .int a1)]) hx hb dX5_isSetting_25 rfl hl (by decide) rfl (fun ls hl => ?_)
        refine lv_iload_n hx hb dX5_isSetting_26 rfl (lv_at hl 0 rfl) ?_
        refine lv_if_eq (tgt := 52) hx hb dX5_isSetting_27 (by decide) (fun c27 => ?_) (fun c27 => absurd c27 (by decide))
        refine lv_iconst (v := 0) hx hb dX5_isSetting_52 (by decide) ?_
        obtain rfl := o_ret hf
        exact k_zret (v := 0) hx hb hr hP hD hS rfl (Nat.zero_le _) (Nat.zero_le _) hlocks dX5_isSetting_53
      · have hf := o_in c17 hf
        refine lv_iconst (v := 1) hx hb dX5_isSetting_20 (by decide) ?_
        refine lv_goto (tgt := 25) hx hb dX5_isSetting_21 (by decide) ?_
        refine lv_istore_n (lv' := [(2, .int 1), (0, .int a0), (1, .int a1)]) hx hb dX5_isSetting_25 rfl hl (by decide) rfl (fun ls hl => ?_)
        refine lv_iload_n hx hb dX5_isSetting_26 rfl (lv_at hl 0 rfl) ?_
        refine lv_if_eq (tgt := 52) hx hb dX5_isSetting_27 (by decide) (fun c27 => absurd c27 (by decide)) (fun c27 => ?_)
        refine lv_iload_n hx hb dX5_isSetting_30 rfl (lv_at hl 2 rfl) ?_
        refine va_gets hx hb hE.2.2.2.2.1 hS hown (hts _ wB339) (fun _ h9 => h9) dX5_isSetting_31 ?_
        refine lv_iload_n hx hb dX5_isSetting_34 rfl (lv_at hl 1 rfl) ?_
        obtain ⟨hg35, hf⟩ := gd_s hf
        refine va_ti (v := .int ([(0 : Int32), 1, 1, 0].getD (a0.toNatClampNeg) 0)) hx hb hE.2.2.2.2.2.1 hS hg35 rfl dX5_isSetting_35 ?_
        refine lv_icmp_lt (tgt := 52) hx hb dX5_isSetting_36 (by decide) (fun c36 => ?_) (fun c36 => ?_)
        · have hf := o_ip c36 hf
          refine lv_iconst (v := 0) hx hb dX5_isSetting_52 (by decide) ?_
          obtain rfl := o_ret hf
          exact k_zret (v := 0) hx hb hr hP hD hS rfl (Nat.zero_le _) (Nat.zero_le _) hlocks dX5_isSetting_53
        · have hf := o_in c36 hf
          refine lv_iload_n hx hb dX5_isSetting_39 rfl (lv_at hl 2 rfl) ?_
          refine va_gets hx hb hE.2.2.2.2.2.2.1 hS hown (hts _ wB340) (fun _ h9 => h9) dX5_isSetting_40 ?_
          refine lv_iload_n hx hb dX5_isSetting_43 rfl (lv_at hl 1 rfl) ?_
          obtain ⟨hg44, hf⟩ := gd_s hf
          refine va_ti (v := .int ([(100 : Int32), 40, 9, 99].getD (a0.toNatClampNeg) 0)) hx hb hE.2.2.2.2.2.2.2.1 hS hg44 rfl dX5_isSetting_44 ?_
          refine lv_icmp_gt (tgt := 52) hx hb dX5_isSetting_45 (by decide) (fun c45 => ?_) (fun c45 => ?_)
          · have hf := o_ip c45 hf
            refine lv_iconst (v := 0) hx hb dX5_isSetting_52 (by decide) ?_
            obtain rfl := o_ret hf
            exact k_zret (v := 0) hx hb hr hP hD hS rfl (Nat.zero_le _) (Nat.zero_le _) hlocks dX5_isSetting_53
          · have hf := o_in c45 hf
            refine lv_iconst (v := 1) hx hb dX5_isSetting_48 (by decide) ?_
            refine lv_goto (tgt := 53) hx hb dX5_isSetting_49 (by decide) ?_
            obtain rfl := o_ret hf
            exact k_zret (v := 1) hx hb hr hP hD hS rfl (Nat.zero_le _) (Nat.zero_le _) hlocks dX5_isSetting_53
noncomputable def mX5_weighGuesses_s27  (s27 : Int32 × KS) : Option ((KS) ⊕ (Int32 × KS)) :=
  if (gI s27.2 3) ≤ s27.1 then
  (some (.inl s27.2))
  else
  ((mX5_at 32 (gR s27.2 5) (s27.1 * 4)).bind fun r50 =>
  (mX0_has s27.2 r50).bind fun r59 =>
  if r59 = 0 then
  (some (.inr ((s27.1 + 1), s27.2)))
  else
  ((mX5_at 32 (gR s27.2 5) ((s27.1 * 4) + 1)).bind fun r80 =>
  (mX0_bring s27.2 r50 r80).bind fun r90 =>
  (mX5_at 32 (gR r90 5) ((s27.1 * 4) + 2)).bind fun r107 =>
  (mX2_addUp r90 r107).bind fun r110 =>
  (mX5_at 32 (gR r110 5) ((s27.1 * 4) + 3)).bind fun r127 =>
  (mX5_at 4 (gR r110 2) 1).bind fun r138 =>
  (mX5_at 4 (gR r110 2) 2).bind fun r149 =>
  (mX2_weigh r110 r127 r138 r149).bind fun r152 =>
  some (.inr ((s27.1 + 1), r152))))
noncomputable def mX5_weighGuesses (u : KS) : Option (KS) :=
  (mX5_at 4 (gR u 2) 3).bind fun r12 =>
  (mX2_begin u r12).bind fun r22 =>
  (lpF mX5_weighGuesses_s27 (0, r22)).bind fun e27 =>
  (mX2_total e27).bind fun r165 =>
  some r165
abbrev rmX5_weighGuesses : Room := { frames := 4, cells := 0, slots := 0, locals := 93 }
set_option maxRecDepth 100000 in
set_option maxHeartbeats 4000000 in
theorem zX5_weighGuesses (l : Launch) (D : va_G) (cy : Nat → ClassId) (sa : Nat → Nat) (q : Nat → Nat) (rest : va_W) (sz : Nat) (u : KS) (res : KS) (hf : mX5_weighGuesses u = some res) : kMv l yX5_weighGuesses (wsK yX5_weighGuesses cX5_weighGuesses 4 none) rmX5_weighGuesses D cy sa (WX q cy u ++ rest) sz [.ref (q 0)] (WX q cy res ++ rest) 0 0 := by
  refine kM_of (Qc := fun A => kQv D A (WX q cy res ++ rest)) (cc := cX5_weighGuesses) (maxL := 4) (ret := none) (by decide) (Nat.le_of_ble_eq_true rfl) ?_
  intro p e s m below meth c A hx hb hml hr hts hown hlocks hin hA hP hD hS hE hsz ls hl
  have hown : s.vm.findClass RX5 = some m.cls := hown
  obtain ⟨H, hH0⟩ : ∃ H, H = s.heap := ⟨_, rfl⟩
  obtain ⟨locs, hlocs0⟩ : ∃ locs : List Loc, locs = [] := ⟨_, rfl⟩
  have hP : va_P D vwCl (WX q cy u ++ rest) H := by rw [hH0]; exact hP
  have hS : va_S A s.heap H locs := by rw [hH0, hlocs0]; exact hS
  have hl : lv_has ls 4 [(0, .ref (q 0))] := hl
  suffices hgoal : W p l e rmX5_weighGuesses s m ([.ref (q 0)] : List Value).toArray below meth c H locs 0 0 (MQ below (kQv D A (WX q cy res ++ rest)) ([.ref (q 0)] : List Value).toArray s 0 0 A) (F0 m 0 ls []) by rw [hH0, hlocs0] at hgoal; exact hgoal
  clear hH0 hlocs0
  unfold mX5_weighGuesses at hf
  refine lv_aload_n hx hb dX5_weighGuesses_0 rfl (lv_at hl 0 rfl) ?_
  refine va_get (ci := 5) (v := .ref (q 15)) (C := RX5) (T := TX5) (N := 9) hx hb hts inlX5 hown hE.1 hP 0 rfl rfl 3 (by decide) (hts _ wB25) (fun _ h9 => h9) rfl dX5_weighGuesses_1 ?_
  refine lv_aload_n hx hb dX5_weighGuesses_4 rfl (lv_at hl 0 rfl) ?_
  refine va_get (ci := 5) (v := .ref (q 3)) (C := RX5) (T := TX5) (N := 9) hx hb hts inlX5 hown hE.1 hP 0 rfl rfl 0 (by decide) (hts _ wB16) (fun _ h9 => h9) rfl dX5_weighGuesses_5 ?_
  refine va_get (ci := 3) (v := .ref (q 5)) (C := RX3) (T := TX3) (N := 9) hx hb hts inlX3 hown hE.1 hP 3 rfl rfl 2 (by decide) (hts _ wB177) (fun _ h9 => h9) rfl dX5_weighGuesses_8 ?_
  refine lv_iconst (v := 3) hx hb dX5_weighGuesses_11 (by decide) ?_
  obtain ⟨r12, h12r, hf⟩ := o_bs hf
  refine k_goi (va_runS (As := [.ref (q 5), .int 3]) (rest := [.ref (q 15)]) ⟨hx, hb, hml, hown, hts⟩ (zX5_at l D cy sa (WX q cy u ++ rest) H.size 5 (q 5) 4 (gR u 2) 3 r12 rfl h12r) (va_cwS 2 hts (gB_S wB121 wB122 wB2 wB123) rfl rfl rfl (by decide +kernel) ⟨Nat.le_of_ble_eq_true rfl, Nat.le_of_ble_eq_true rfl⟩) ⟨kP.blind, k_pre hP hD hS hE hA⟩ rfl rfl hl.1 rfl (lv_room (Nat.le_of_ble_eq_true rfl)) dX5_weighGuesses_12 ⟨Nat.zero_le _, Nat.zero_le _⟩) hD hS hA (fun H locs hP hD hS => ?_)
  refine lv_aload_n hx hb dX5_weighGuesses_15 rfl (lv_at hl 0 rfl) ?_
  refine va_get (ci := 5) (v := .ref (q 3)) (C := RX5) (T := TX5) (N := 9) hx hb hts inlX5 hown hE.1 hP 0 rfl rfl 0 (by decide) (hts _ wB16) (fun _ h9 => h9) rfl dX5_weighGuesses_16 ?_
  refine va_get (ci := 3) (v := .ref (q 6)) (C := RX3) (T := TX3) (N := 9) hx hb hts inlX3 hown hE.1 hP 3 rfl rfl 3 (by decide) (hts _ wB352) (fun _ h9 => h9) rfl dX5_weighGuesses_19 ?_
  obtain ⟨r22, h22r, hf⟩ := o_bs hf
  refine k_gov (va_runV (As := [.int r12, .ref (q 6)]) (rest := []) ⟨hx, hb, hml, hown, hts⟩ (zX2_begin l D cy sa q rest H.size u r12 r22 h22r) (cwV 2 hts (gB_V wB508 wB509 wB510 wB24 wB511) rfl rfl rfl (by decide +kernel) ⟨Nat.le_of_ble_eq_true rfl, Nat.le_of_ble_eq_true rfl⟩) ⟨kP.blind, k_recv hE hP (ci := 2) (q0 := 15) rfl rfl, k_pre hP hD hS hE hA⟩ rfl rfl hl.1 rfl (lv_room (Nat.le_of_ble_eq_true rfl)) dX5_weighGuesses_22 ⟨Nat.zero_le _, Nat.zero_le _⟩) hD hS hA (fun H locs hP hD hS => ?_)
  refine lv_iconst (v := 0) hx hb dX5_weighGuesses_25 (by decide) ?_
  refine lv_istore_n (lv' := [(1, .int 0), (0, .ref (q 0))]) hx hb dX5_weighGuesses_26 rfl hl (by decide) rfl (fun ls hl => ?_)
  have L27 : ∀ (n27v : Nat) (s27 : Int32 × KS) (e27 : KS), lpO mX5_weighGuesses_s27 n27v s27 = some e27 → ∀ (H : Heap) (locs : List Loc) (ls : Array Slot), va_P D vwCl (WX q cy s27.2 ++ rest) H → va_D A (WX q cy s27.2 ++ rest) → va_S A s.heap H locs → lv_has ls 4 [(0, .ref (q 0)), (1, .int s27.1)] → (∀ (H : Heap) (locs : List Loc) (ls : Array Slot), va_P D vwCl (WX q cy e27 ++ rest) H → va_D A (WX q cy e27 ++ rest) → va_S A s.heap H locs → lv_has ls 4 [(0, .ref (q 0))] → W p l e rmX5_weighGuesses s m ([.ref (q 0)] : List Value).toArray below meth c H locs 0 0 (MQ below (kQv D A (WX q cy res ++ rest)) ([.ref (q 0)] : List Value).toArray s 0 0 A) (F0 m 161 ls [])) → W p l e rmX5_weighGuesses s m ([.ref (q 0)] : List Value).toArray below meth c H locs 0 0 (MQ below (kQv D A (WX q cy res ++ rest)) ([.ref (q 0)] : List Value).toArray s 0 0 A) (F0 m 27 ls []) := by
    intro n27v
    induction n27v with
    | zero => intro s27 e27 h; exact (lpO_z h).elim
    | succ n27v ih27 =>
      intro s27 e27 h27z H locs ls hP hD hS hl K27_0
      obtain ⟨x27, hf, h27z⟩ := lpO_s h27z
      unfold mX5_weighGuesses_s27 at hf
      refine lv_iload_n hx hb dX5_weighGuesses_27 rfl (lv_at hl 1 rfl) ?_
      refine lv_aload_n hx hb dX5_weighGuesses_28 rfl (lv_at hl 0 rfl) ?_
      refine va_get (ci := 5) (v := .ref (q 3)) (C := RX5) (T := TX5) (N := 9) hx hb hts inlX5 hown hE.1 hP 0 rfl rfl 0 (by decide) (hts _ wB16) (fun _ h9 => h9) rfl dX5_weighGuesses_29 ?_
      refine va_get (ci := 3) (v := .int (gI s27.2 3)) (C := RX3) (T := TX3) (N := 9) hx hb hts inlX3 hown hE.1 hP 3 rfl rfl 6 (by decide) (hts _ wB478) (fun _ h9 => h9) rfl dX5_weighGuesses_32 ?_
      refine lv_icmp_ge (tgt := 161) hx hb dX5_weighGuesses_35 (by decide) (fun c35 => ?_) (fun c35 => ?_)
      · have hf := o_ip c35 hf
        obtain rfl := o_ret hf
        obtain rfl := lpK_l h27z
        exact K27_0 _ _ _ hP hD hS (lv_sub hl [0] rfl)
      · have hf := o_in c35 hf
        refine lv_iload_n hx hb dX5_weighGuesses_38 rfl (lv_at hl 1 rfl) ?_
        refine lv_iconst (v := 4) hx hb dX5_weighGuesses_39 (by decide) ?_
        refine lv_imul hx hb dX5_weighGuesses_40 ?_
        refine lv_istore_n (lv' := [(2, .int (s27.1 * 4)), (0, .ref (q 0)), (1, .int s27.1)]) hx hb dX5_weighGuesses_41 rfl hl (by decide) rfl (fun ls hl => ?_)
        refine lv_aload_n hx hb dX5_weighGuesses_42 rfl (lv_at hl 1 rfl) ?_
        refine va_get (ci := 5) (v := .ref (q 3)) (C := RX5) (T := TX5) (N := 9) hx hb hts inlX5 hown hE.1 hP 0 rfl rfl 0 (by decide) (hts _ wB16) (fun _ h9 => h9) rfl dX5_weighGuesses_43 ?_
        refine va_get (ci := 3) (v := .ref (q 8)) (C := RX3) (T := TX3) (N := 9) hx hb hts inlX3 hown hE.1 hP 3 rfl rfl 5 (by decide) (hts _ wB479) (fun _ h9 => h9) rfl dX5_weighGuesses_46 ?_
        refine lv_iload_n hx hb dX5_weighGuesses_49 rfl (lv_at hl 0 rfl) ?_
        obtain ⟨r50, h50r, hf⟩ := o_bs hf
        refine k_goi (va_runS (As := [.ref (q 8), .int (s27.1 * 4)]) (rest := []) ⟨hx, hb, hml, hown, hts⟩ (zX5_at l D cy sa (WX q cy s27.2 ++ rest) H.size 8 (q 8) 32 (gR s27.2 5) (s27.1 * 4) r50 rfl h50r) (va_cwS 2 hts (gB_S wB121 wB122 wB2 wB123) rfl rfl rfl (by decide +kernel) ⟨Nat.le_of_ble_eq_true rfl, Nat.le_of_ble_eq_true rfl⟩) ⟨kP.blind, k_pre hP hD hS hE hA⟩ rfl rfl hl.1 rfl (lv_room (Nat.le_of_ble_eq_true rfl)) dX5_weighGuesses_50 ⟨Nat.zero_le _, Nat.zero_le _⟩) hD hS hA (fun H locs hP hD hS => ?_)
        refine lv_istore_n (lv' := [(3, .int r50), (2, .int (s27.1 * 4)), (0, .ref (q 0)), (1, .int s27.1)]) hx hb dX5_weighGuesses_53 rfl hl (by decide) rfl (fun ls hl => ?_)
        refine lv_aload_n hx hb dX5_weighGuesses_54 rfl (lv_at hl 2 rfl) ?_
        refine va_get (ci := 5) (v := .ref (q 10)) (C := RX5) (T := TX5) (N := 9) hx hb hts inlX5 hown hE.1 hP 0 rfl rfl 2 (by decide) (hts _ wB21) (fun _ h9 => h9) rfl dX5_weighGuesses_55 ?_
        refine lv_iload_n hx hb dX5_weighGuesses_58 rfl (lv_at hl 0 rfl) ?_
        obtain ⟨r59, h59r, hf⟩ := o_bs hf
        refine k_goi (va_runV (As := [.int r50]) (rest := []) ⟨hx, hb, hml, hown, hts⟩ (zX0_has l D cy sa q rest H.size s27.2 r50 r59 h59r) (cwV 1 hts (gB_V wB405 wB406 wB407 wB20 wB408) rfl rfl rfl (by decide +kernel) ⟨Nat.le_of_ble_eq_true rfl, Nat.le_of_ble_eq_true rfl⟩) ⟨kP.blind, k_recv hE hP (ci := 0) (q0 := 10) rfl rfl, k_pre hP hD hS hE hA⟩ rfl rfl hl.1 rfl (lv_room (Nat.le_of_ble_eq_true rfl)) dX5_weighGuesses_59 ⟨Nat.zero_le _, Nat.zero_le _⟩) hD hS hA (fun H locs hP hD hS => ?_)
        refine lv_if_eq (tgt := 155) hx hb dX5_weighGuesses_62 (by decide) (fun c62 => ?_) (fun c62 => ?_)
        · have hf := o_ip c62 hf
          refine lv_iinc (v := (s27.1 + 1)) (lv' := [(1, .int (s27.1 + 1)), (3, .int r50), (2, .int (s27.1 * 4)), (0, .ref (q 0))]) hx hb dX5_weighGuesses_155 hl (k := 3) rfl (by rfl) (by decide) rfl (fun ls hl => ?_)
          refine lv_goto (tgt := 27) hx hb dX5_weighGuesses_158 (by decide) ?_
          obtain rfl := o_ret hf
          exact ih27 _ _ (lpK_r h27z) _ _ _ hP hD hS (lv_sub hl [3, 0] rfl) K27_0
        · have hf := o_in c62 hf
          refine lv_aload_n hx hb dX5_weighGuesses_65 rfl (lv_at hl 2 rfl) ?_
          refine va_get (ci := 5) (v := .ref (q 10)) (C := RX5) (T := TX5) (N := 9) hx hb hts inlX5 hown hE.1 hP 0 rfl rfl 2 (by decide) (hts _ wB21) (fun _ h9 => h9) rfl dX5_weighGuesses_66 ?_
          refine lv_iload_n hx hb dX5_weighGuesses_69 rfl (lv_at hl 0 rfl) ?_
          refine lv_aload_n hx hb dX5_weighGuesses_70 rfl (lv_at hl 2 rfl) ?_
          refine va_get (ci := 5) (v := .ref (q 3)) (C := RX5) (T := TX5) (N := 9) hx hb hts inlX5 hown hE.1 hP 0 rfl rfl 0 (by decide) (hts _ wB16) (fun _ h9 => h9) rfl dX5_weighGuesses_71 ?_
          refine va_get (ci := 3) (v := .ref (q 8)) (C := RX3) (T := TX3) (N := 9) hx hb hts inlX3 hown hE.1 hP 3 rfl rfl 5 (by decide) (hts _ wB479) (fun _ h9 => h9) rfl dX5_weighGuesses_74 ?_
          refine lv_iload_n hx hb dX5_weighGuesses_77 rfl (lv_at hl 1 rfl) ?_
          refine lv_iconst (v := 1) hx hb dX5_weighGuesses_78 (by decide) ?_
          refine lv_iadd hx hb dX5_weighGuesses_79 ?_
          obtain ⟨r80, h80r, hf⟩ := o_bs hf
          refine k_goi (va_runS (As := [.ref (q 8), .int ((s27.1 * 4) + 1)]) (rest := [.int r50, .ref (q 10)]) ⟨hx, hb, hml, hown, hts⟩ (zX5_at l D cy sa (WX q cy s27.2 ++ rest) H.size 8 (q 8) 32 (gR s27.2 5) ((s27.1 * 4) + 1) r80 rfl h80r) (va_cwS 2 hts (gB_S wB121 wB122 wB2 wB123) rfl rfl rfl (by decide +kernel) ⟨Nat.le_of_ble_eq_true rfl, Nat.le_of_ble_eq_true rfl⟩) ⟨kP.blind, k_pre hP hD hS hE hA⟩ rfl rfl hl.1 rfl (lv_room (Nat.le_of_ble_eq_true rfl)) dX5_weighGuesses_80 ⟨Nat.zero_le _, Nat.zero_le _⟩) hD hS hA (fun H locs hP hD hS => ?_)
          refine lv_aload_n hx hb dX5_weighGuesses_83 rfl (lv_at hl 2 rfl) ?_
          refine va_get (ci := 5) (v := .ref (q 15)) (C := RX5) (T := TX5) (N := 9) hx hb hts inlX5 hown hE.1 hP 0 rfl rfl 3 (by decide) (hts _ wB25) (fun _ h9 => h9) rfl dX5_weighGuesses_84 ?_
          refine va_get (ci := 2) (v := .ref (q 16)) (C := RX2) (T := TX2) (N := 4) hx hb hts inlX2 hown hE.1 hP 15 rfl rfl 1 (by decide) (hts _ wB507) (fun _ h9 => h9) rfl dX5_weighGuesses_87 ?_
          obtain ⟨r90, h90r, hf⟩ := o_bs hf
          refine k_gov (va_runV (As := [.int r50, .int r80, .ref (q 16)]) (rest := []) ⟨hx, hb, hml, hown, hts⟩ (zX0_bring l D cy sa q rest H.size s27.2 r50 r80 r90 h90r) (cwV 3 hts (gB_V wB514 wB515 wB516 wB20 wB517) rfl rfl rfl (by decide +kernel) ⟨Nat.le_of_ble_eq_true rfl, Nat.le_of_ble_eq_true rfl⟩) ⟨kP.blind, k_recv hE hP (ci := 0) (q0 := 10) rfl rfl, k_pre hP hD hS hE hA⟩ rfl rfl hl.1 rfl (lv_room (Nat.le_of_ble_eq_true rfl)) dX5_weighGuesses_90 ⟨Nat.zero_le _, Nat.zero_le _⟩) hD hS hA (fun H locs hP hD hS => ?_)
          refine lv_aload_n hx hb dX5_weighGuesses_93 rfl (lv_at hl 2 rfl) ?_
          refine va_get (ci := 5) (v := .ref (q 15)) (C := RX5) (T := TX5) (N := 9) hx hb hts inlX5 hown hE.1 hP 0 rfl rfl 3 (by decide) (hts _ wB25) (fun _ h9 => h9) rfl dX5_weighGuesses_94 ?_
          refine lv_aload_n hx hb dX5_weighGuesses_97 rfl (lv_at hl 2 rfl) ?_
          refine va_get (ci := 5) (v := .ref (q 3)) (C := RX5) (T := TX5) (N := 9) hx hb hts inlX5 hown hE.1 hP 0 rfl rfl 0 (by decide) (hts _ wB16) (fun _ h9 => h9) rfl dX5_weighGuesses_98 ?_
          refine va_get (ci := 3) (v := .ref (q 8)) (C := RX3) (T := TX3) (N := 9) hx hb hts inlX3 hown hE.1 hP 3 rfl rfl 5 (by decide) (hts _ wB479) (fun _ h9 => h9) rfl dX5_weighGuesses_101 ?_
          refine lv_iload_n hx hb dX5_weighGuesses_104 rfl (lv_at hl 1 rfl) ?_
          refine lv_iconst (v := 2) hx hb dX5_weighGuesses_105 (by decide) ?_
          refine lv_iadd hx hb dX5_weighGuesses_106 ?_
          obtain ⟨r107, h107r, hf⟩ := o_bs hf
          refine k_goi (va_runS (As := [.ref (q 8), .int ((s27.1 * 4) + 2)]) (rest := [.ref (q 15)]) ⟨hx, hb, hml, hown, hts⟩ (zX5_at l D cy sa (WX q cy r90 ++ rest) H.size 8 (q 8) 32 (gR r90 5) ((s27.1 * 4) + 2) r107 rfl h107r) (va_cwS 2 hts (gB_S wB121 wB122 wB2 wB123) rfl rfl rfl (by decide +kernel) ⟨Nat.le_of_ble_eq_true rfl, Nat.le_of_ble_eq_true rfl⟩) ⟨kP.blind, k_pre hP hD hS hE hA⟩ rfl rfl hl.1 rfl (lv_room (Nat.le_of_ble_eq_true rfl)) dX5_weighGuesses_107 ⟨Nat.zero_le _, Nat.zero_le _⟩) hD hS hA (fun H locs hP hD hS => ?_)
          obtain ⟨r110, h110r, hf⟩ := o_bs hf
          refine k_gov (va_runV (As := [.int r107]) (rest := []) ⟨hx, hb, hml, hown, hts⟩ (zX2_addUp l D cy sa q rest H.size r90 r107 r110 h110r) (cwV 1 hts (gB_V wB519 wB520 wB521 wB24 wB522) rfl rfl rfl (by decide +kernel) ⟨Nat.le_of_ble_eq_true rfl, Nat.le_of_ble_eq_true rfl⟩) ⟨kP.blind, k_recv hE hP (ci := 2) (q0 := 15) rfl rfl, k_pre hP hD hS hE hA⟩ rfl rfl hl.1 rfl (lv_room (Nat.le_of_ble_eq_true rfl)) dX5_weighGuesses_110 ⟨Nat.zero_le _, Nat.zero_le _⟩) hD hS hA (fun H locs hP hD hS => ?_)
          refine lv_aload_n hx hb dX5_weighGuesses_113 rfl (lv_at hl 2 rfl) ?_
          refine va_get (ci := 5) (v := .ref (q 15)) (C := RX5) (T := TX5) (N := 9) hx hb hts inlX5 hown hE.1 hP 0 rfl rfl 3 (by decide) (hts _ wB25) (fun _ h9 => h9) rfl dX5_weighGuesses_114 ?_
          refine lv_aload_n hx hb dX5_weighGuesses_117 rfl (lv_at hl 2 rfl) ?_
          refine va_get (ci := 5) (v := .ref (q 3)) (C := RX5) (T := TX5) (N := 9) hx hb hts inlX5 hown hE.1 hP 0 rfl rfl 0 (by decide) (hts _ wB16) (fun _ h9 => h9) rfl dX5_weighGuesses_118 ?_
          refine va_get (ci := 3) (v := .ref (q 8)) (C := RX3) (T := TX3) (N := 9) hx hb hts inlX3 hown hE.1 hP 3 rfl rfl 5 (by decide) (hts _ wB479) (fun _ h9 => h9) rfl dX5_weighGuesses_121 ?_
          refine lv_iload_n hx hb dX5_weighGuesses_124 rfl (lv_at hl 1 rfl) ?_
          refine lv_iconst (v := 3) hx hb dX5_weighGuesses_125 (by decide) ?_
          refine lv_iadd hx hb dX5_weighGuesses_126 ?_
          obtain ⟨r127, h127r, hf⟩ := o_bs hf
          refine k_goi (va_runS (As := [.ref (q 8), .int ((s27.1 * 4) + 3)]) (rest := [.ref (q 15)]) ⟨hx, hb, hml, hown, hts⟩ (zX5_at l D cy sa (WX q cy r110 ++ rest) H.size 8 (q 8) 32 (gR r110 5) ((s27.1 * 4) + 3) r127 rfl h127r) (va_cwS 2 hts (gB_S wB121 wB122 wB2 wB123) rfl rfl rfl (by decide +kernel) ⟨Nat.le_of_ble_eq_true rfl, Nat.le_of_ble_eq_true rfl⟩) ⟨kP.blind, k_pre hP hD hS hE hA⟩ rfl rfl hl.1 rfl (lv_room (Nat.le_of_ble_eq_true rfl)) dX5_weighGuesses_127 ⟨Nat.zero_le _, Nat.zero_le _⟩) hD hS hA (fun H locs hP hD hS => ?_)
          refine lv_aload_n hx hb dX5_weighGuesses_130 rfl (lv_at hl 2 rfl) ?_
          refine va_get (ci := 5) (v := .ref (q 3)) (C := RX5) (T := TX5) (N := 9) hx hb hts inlX5 hown hE.1 hP 0 rfl rfl 0 (by decide) (hts _ wB16) (fun _ h9 => h9) rfl dX5_weighGuesses_131 ?_
          refine va_get (ci := 3) (v := .ref (q 5)) (C := RX3) (T := TX3) (N := 9) hx hb hts inlX3 hown hE.1 hP 3 rfl rfl 2 (by decide) (hts _ wB177) (fun _ h9 => h9) rfl dX5_weighGuesses_134 ?_
          refine lv_iconst (v := 1) hx hb dX5_weighGuesses_137 (by decide) ?_
          obtain ⟨r138, h138r, hf⟩ := o_bs hf
          refine k_goi (va_runS (As := [.ref (q 5), .int 1]) (rest := [.int r127, .ref (q 15)]) ⟨hx, hb, hml, hown, hts⟩ (zX5_at l D cy sa (WX q cy r110 ++ rest) H.size 5 (q 5) 4 (gR r110 2) 1 r138 rfl h138r) (va_cwS 2 hts (gB_S wB121 wB122 wB2 wB123) rfl rfl rfl (by decide +kernel) ⟨Nat.le_of_ble_eq_true rfl, Nat.le_of_ble_eq_true rfl⟩) ⟨kP.blind, k_pre hP hD hS hE hA⟩ rfl rfl hl.1 rfl (lv_room (Nat.le_of_ble_eq_true rfl)) dX5_weighGuesses_138 ⟨Nat.zero_le _, Nat.zero_le _⟩) hD hS hA (fun H locs hP hD hS => ?_)
          refine lv_aload_n hx hb dX5_weighGuesses_141 rfl (lv_at hl 2 rfl) ?_
          refine va_get (ci := 5) (v := .ref (q 3)) (C := RX5) (T := TX5) (N := 9) hx hb hts inlX5 hown hE.1 hP 0 rfl rfl 0 (by decide) (hts _ wB16) (fun _ h9 => h9) rfl dX5_weighGuesses_142 ?_
          refine va_get (ci := 3) (v := .ref (q 5)) (C := RX3) (T := TX3) (N := 9) hx hb hts inlX3 hown hE.1 hP 3 rfl rfl 2 (by decide) (hts _ wB177) (fun _ h9 => h9) rfl dX5_weighGuesses_145 ?_
          refine lv_iconst (v := 2) hx hb dX5_weighGuesses_148 (by decide) ?_
          obtain ⟨r149, h149r, hf⟩ := o_bs hf
          refine k_goi (va_runS (As := [.ref (q 5), .int 2]) (rest := [.int r138, .int r127, .ref (q 15)]) ⟨hx, hb, hml, hown, hts⟩ (zX5_at l D cy sa (WX q cy r110 ++ rest) H.size 5 (q 5) 4 (gR r110 2) 2 r149 rfl h149r) (va_cwS 2 hts (gB_S wB121 wB122 wB2 wB123) rfl rfl rfl (by decide +kernel) ⟨Nat.le_of_ble_eq_true rfl, Nat.le_of_ble_eq_true rfl⟩) ⟨kP.blind, k_pre hP hD hS hE hA⟩ rfl rfl hl.1 rfl (lv_room (Nat.le_of_ble_eq_true rfl)) dX5_weighGuesses_149 ⟨Nat.zero_le _, Nat.zero_le _⟩) hD hS hA (fun H locs hP hD hS => ?_)
          obtain ⟨r152, h152r, hf⟩ := o_bs hf
          refine k_gov (va_runV (As := [.int r127, .int r138, .int r149]) (rest := []) ⟨hx, hb, hml, hown, hts⟩ (zX2_weigh l D cy sa q rest H.size r110 r127 r138 r149 r152 h152r) (cwV 3 hts (gB_V wB527 wB528 wB529 wB24 wB530) rfl rfl rfl (by decide +kernel) ⟨Nat.le_of_ble_eq_true rfl, Nat.le_of_ble_eq_true rfl⟩) ⟨kP.blind, k_recv hE hP (ci := 2) (q0 := 15) rfl rfl, k_pre hP hD hS hE hA⟩ rfl rfl hl.1 rfl (lv_room (Nat.le_of_ble_eq_true rfl)) dX5_weighGuesses_152 ⟨Nat.zero_le _, Nat.zero_le _⟩) hD hS hA (fun H locs hP hD hS => ?_)
          refine lv_iinc (v := (s27.1 + 1)) (lv' := [(1, .int (s27.1 + 1)), (3, .int r50), (2, .int (s27.1 * 4)), (0, .ref (q 0))]) hx hb dX5_weighGuesses_155 hl (k := 3) rfl (by rfl) (by decide) rfl (fun ls hl => ?_)
          refine lv_goto (tgt := 27) hx hb dX5_weighGuesses_158 (by decide) ?_
          obtain rfl := o_ret hf
          exact ih27 _ _ (lpK_r h27z) _ _ _ hP hD hS (lv_sub hl [3, 0] rfl) K27_0
  obtain ⟨e27, h27q, hf⟩ := o_bs hf
  obtain ⟨n27v, h27q⟩ := lpF_ex h27q
  refine L27 n27v _ e27 h27q _ _ _ hP hD hS (lv_sub hl [1, 0] rfl) ?_
  intro H locs ls hP hD hS hl
  refine lv_aload_n hx hb dX5_weighGuesses_161 rfl (lv_at hl 0 rfl) ?_
  refine va_get (ci := 5) (v := .ref (q 15)) (C := RX5) (T := TX5) (N := 9) hx hb hts inlX5 hown hE.1 hP 0 rfl rfl 3 (by decide) (hts _ wB25) (fun _ h9 => h9) rfl dX5_weighGuesses_162 ?_
  obtain ⟨r165, h165r, hf⟩ := o_bs hf
  refine k_gov (va_runV (As := []) (rest := []) ⟨hx, hb, hml, hown, hts⟩ (zX2_total l D cy sa q rest H.size e27  r165 h165r) (cwV 0 hts (gB_V wB534 wB535 wB536 wB24 wB537) rfl rfl rfl (by decide +kernel) ⟨Nat.le_of_ble_eq_true rfl, Nat.le_of_ble_eq_true rfl⟩) ⟨kP.blind, k_recv hE hP (ci := 2) (q0 := 15) rfl rfl, k_pre hP hD hS hE hA⟩ rfl rfl hl.1 rfl (lv_room (Nat.le_of_ble_eq_true rfl)) dX5_weighGuesses_165 ⟨Nat.zero_le _, Nat.zero_le _⟩) hD hS hA (fun H locs hP hD hS => ?_)
  obtain rfl := o_ret hf
  exact k_vret hx hb hr hP hD hS (Nat.zero_le _) (Nat.zero_le _) hlocks dX5_weighGuesses_168
noncomputable def mX5_noGuesses (u : KS) : Option (Int32 × KS) :=
  (mX5_readDay u).bind fun r1 =>
  if (gI r1 5) = (-1) then
  (if (gI r1 1) = 0 then
  (if (lg_cmp (gL r1 0) 0) = 0 then
  (some (1, r1))
  else
  (some (0, r1)))
  else
  ((mX5_weighGuesses r1).bind fun r25 =>
  if (lg_cmp (gL r25 0) 0) = 0 then
  (some (1, (sI r25 1 0)))
  else
  (some (0, (sI r25 1 0)))))
  else
  (some (1, r1))
abbrev rmX5_noGuesses : Room := { frames := 9, cells := 0, slots := 0, locals := 197 }
set_option maxRecDepth 100000 in
set_option maxHeartbeats 4000000 in
theorem zX5_noGuesses (l : Launch) (D : va_G) (cy : Nat → ClassId) (sa : Nat → Nat) (q : Nat → Nat) (rest : va_W) (sz : Nat) (u : KS) (res : Int32 × KS) (hf : mX5_noGuesses u = some res) : kMi l yX5_noGuesses (wsK yX5_noGuesses cX5_noGuesses 1 (some .boolean)) rmX5_noGuesses D cy sa (WX q cy u ++ rest) sz [.ref (q 0)] res.1 (WX q cy res.2 ++ rest) 0 0 := by
  refine kM_of (Qc := fun A => kQi D A res.1 (WX q cy res.2 ++ rest)) (cc := cX5_noGuesses) (maxL := 1) (ret := (some .boolean)) (by decide) (Nat.le_of_ble_eq_true rfl) ?_
  intro p e s m below meth c A hx hb hml hr hts hown hlocks hin hA hP hD hS hE hsz ls hl
  have hown : s.vm.findClass RX5 = some m.cls := hown
  obtain ⟨H, hH0⟩ : ∃ H, H = s.heap := ⟨_, rfl⟩
  obtain ⟨locs, hlocs0⟩ : ∃ locs : List Loc, locs = [] := ⟨_, rfl⟩
  have hP : va_P D vwCl (WX q cy u ++ rest) H := by rw [hH0]; exact hP
  have hS : va_S A s.heap H locs := by rw [hH0, hlocs0]; exact hS
  have hl : lv_has ls 1 [(0, .ref (q 0))] := hl
  suffices hgoal : W p l e rmX5_noGuesses s m ([.ref (q 0)] : List Value).toArray below meth c H locs 0 0 (MQ below (kQi D A res.1 (WX q cy res.2 ++ rest)) ([.ref (q 0)] : List Value).toArray s 0 0 A) (F0 m 0 ls []) by rw [hH0, hlocs0] at hgoal; exact hgoal
  clear hH0 hlocs0
  unfold mX5_noGuesses at hf
  refine lv_aload_n hx hb dX5_noGuesses_0 rfl (lv_at hl 0 rfl) ?_
  obtain ⟨r1, h1r, hf⟩ := o_bs hf
  refine k_gov (va_runV (As := []) (rest := []) ⟨hx, hb, hml, hown, hts⟩ (zX5_readDay l D cy sa q rest H.size u  r1 h1r) (cwV 0 hts (gB_V wB173 wB174 wB175 wB2 wB176) rfl rfl rfl (by decide +kernel) ⟨Nat.le_of_ble_eq_true rfl, Nat.le_of_ble_eq_true rfl⟩) ⟨kP.blind, k_recv hE hP (ci := 5) (q0 := 0) rfl rfl, k_pre hP hD hS hE hA⟩ rfl rfl hl.1 rfl (lv_room (Nat.le_of_ble_eq_true rfl)) dX5_noGuesses_1 ⟨Nat.zero_le _, Nat.zero_le _⟩) hD hS hA (fun H locs hP hD hS => ?_)
  refine lv_aload_n hx hb dX5_noGuesses_4 rfl (lv_at hl 0 rfl) ?_
  refine va_get (ci := 5) (v := .ref (q 10)) (C := RX5) (T := TX5) (N := 9) hx hb hts inlX5 hown hE.1 hP 0 rfl rfl 2 (by decide) (hts _ wB21) (fun _ h9 => h9) rfl dX5_noGuesses_5 ?_
  refine va_get (ci := 0) (v := .int (gI r1 5)) (C := RX0) (T := TX0) (N := 9) hx hb hts inlX0 hown hE.1 hP 10 rfl rfl 0 (by decide) (hts _ wB172) (fun _ h9 => h9) rfl dX5_noGuesses_8 ?_
  refine lv_iconst (v := (-1)) hx hb dX5_noGuesses_11 (by decide) ?_
  refine lv_icmp_eq (tgt := 17) hx hb dX5_noGuesses_12 (by decide) (fun c12 => ?_) (fun c12 => ?_)
  · have hf := o_ip c12 hf
    refine lv_aload_n hx hb dX5_noGuesses_17 rfl (lv_at hl 0 rfl) ?_
    refine va_get (ci := 5) (v := .int (gI r1 1)) (C := RX5) (T := TX5) (N := 9) hx hb hts inlX5 hown hE.1 hP 0 rfl rfl 8 (by decide) (hts _ wB37) (fun _ h9 => h9) rfl dX5_noGuesses_18 ?_
    refine lv_if_eq (tgt := 33) hx hb dX5_noGuesses_21 (by decide) (fun c21 => ?_) (fun c21 => ?_)
    · have hf := o_ip c21 hf
      refine lv_aload_n hx hb dX5_noGuesses_33 rfl (lv_at hl 0 rfl) ?_
      refine va_get (ci := 5) (v := .ref (q 15)) (C := RX5) (T := TX5) (N := 9) hx hb hts inlX5 hown hE.1 hP 0 rfl rfl 3 (by decide) (hts _ wB25) (fun _ h9 => h9) rfl dX5_noGuesses_34 ?_
      refine va_get (ci := 2) (v := .long (gL r1 0)) (C := RX2) (T := TX2) (N := 4) hx hb hts inlX2 hown hE.1 hP 15 rfl rfl 0 (by decide) (hts _ wB498) (fun _ h9 => h9) rfl dX5_noGuesses_37 ?_
      refine lv_lconst (v := 0) hx hb dX5_noGuesses_40 (by decide) ?_
      refine W.lcmp hx hb dX5_noGuesses_41 ?_
      refine lv_if_ne (tgt := 49) hx hb dX5_noGuesses_42 (by decide) (fun c42 => ?_) (fun c42 => ?_)
      · have hf := o_in c42 hf
        refine lv_iconst (v := 0) hx hb dX5_noGuesses_49 (by decide) ?_
        obtain rfl := o_ret hf
        exact k_zret (v := 0) hx hb hr hP hD hS rfl (Nat.zero_le _) (Nat.zero_le _) hlocks dX5_noGuesses_50
      · have hf := o_ip c42 hf
        refine lv_iconst (v := 1) hx hb dX5_noGuesses_45 (by decide) ?_
        refine lv_goto (tgt := 50) hx hb dX5_noGuesses_46 (by decide) ?_
        obtain rfl := o_ret hf
        exact k_zret (v := 1) hx hb hr hP hD hS rfl (Nat.zero_le _) (Nat.zero_le _) hlocks dX5_noGuesses_50
    · have hf := o_in c21 hf
      refine lv_aload_n hx hb dX5_noGuesses_24 rfl (lv_at hl 0 rfl) ?_
      obtain ⟨r25, h25r, hf⟩ := o_bs hf
      refine k_gov (va_runV (As := []) (rest := []) ⟨hx, hb, hml, hown, hts⟩ (zX5_weighGuesses l D cy sa q rest H.size r1  r25 h25r) (cwV 0 hts (gB_V wB503 wB504 wB505 wB2 wB506) rfl rfl rfl (by decide +kernel) ⟨Nat.le_of_ble_eq_true rfl, Nat.le_of_ble_eq_true rfl⟩) ⟨kP.blind, k_recv hE hP (ci := 5) (q0 := 0) rfl rfl, k_pre hP hD hS hE hA⟩ rfl rfl hl.1 rfl (lv_room (Nat.le_of_ble_eq_true rfl)) dX5_noGuesses_25 ⟨Nat.zero_le _, Nat.zero_le _⟩) hD hS hA (fun H locs hP hD hS => ?_)
      refine lv_aload_n hx hb dX5_noGuesses_28 rfl (lv_at hl 0 rfl) ?_
      refine lv_iconst (v := 0) hx hb dX5_noGuesses_29 (by decide) ?_
      refine va_put (ci := 5) (v := .int 0) (ty := .boolean) (C := RX5) (T := TX5) (N := 9) hx hb hts inlX5 tyX5 tyX5_ok nmX5 hown hE.1 hP hD hS 0 rfl rfl 8 (by decide) (hts _ wB37) (fun _ h9 => h9) rfl (by decide +kernel) rfl rfl (Nat.le_of_ble_eq_true rfl) dX5_noGuesses_30 (fun H locs hP hD hS => ?_)
      have hP : va_P D vwCl (WX q cy (sI r25 1 0) ++ rest) H := hP
      have hD : va_D A (WX q cy (sI r25 1 0) ++ rest) := hD
      refine lv_aload_n hx hb dX5_noGuesses_33 rfl (lv_at hl 0 rfl) ?_
      refine va_get (ci := 5) (v := .ref (q 15)) (C := RX5) (T := TX5) (N := 9) hx hb hts inlX5 hown hE.1 hP 0 rfl rfl 3 (by decide) (hts _ wB25) (fun _ h9 => h9) rfl dX5_noGuesses_34 ?_
      refine va_get (ci := 2) (v := .long (gL r25 0)) (C := RX2) (T := TX2) (N := 4) hx hb hts inlX2 hown hE.1 hP 15 rfl rfl 0 (by decide) (hts _ wB498) (fun _ h9 => h9) rfl dX5_noGuesses_37 ?_
      refine lv_lconst (v := 0) hx hb dX5_noGuesses_40 (by decide) ?_
      refine W.lcmp hx hb dX5_noGuesses_41 ?_
      refine lv_if_ne (tgt := 49) hx hb dX5_noGuesses_42 (by decide) (fun c42 => ?_) (fun c42 => ?_)
      · have hf := o_in c42 hf
        refine lv_iconst (v := 0) hx hb dX5_noGuesses_49 (by decide) ?_
        obtain rfl := o_ret hf
        exact k_zret (v := 0) hx hb hr hP hD hS rfl (Nat.zero_le _) (Nat.zero_le _) hlocks dX5_noGuesses_50
      · have hf := o_ip c42 hf
        refine lv_iconst (v := 1) hx hb dX5_noGuesses_45 (by decide) ?_
        refine lv_goto (tgt := 50) hx hb dX5_noGuesses_46 (by decide) ?_
        obtain rfl := o_ret hf
        exact k_zret (v := 1) hx hb hr hP hD hS rfl (Nat.zero_le _) (Nat.zero_le _) hlocks dX5_noGuesses_50
  · have hf := o_in c12 hf
    refine lv_iconst (v := 1) hx hb dX5_noGuesses_15 (by decide) ?_
    obtain rfl := o_ret hf
    exact k_zret (v := 1) hx hb hr hP hD hS rfl (Nat.zero_le _) (Nat.zero_le _) hlocks dX5_noGuesses_16
noncomputable def mX5_leaks (u : KS) (a1 : Int32) : Option (Int32 × KS) :=
  if a1 < 0 then
  ((mX5_bad u).bind fun r11 =>
  some (r11.1, r11.2))
  else
  (if a1 ≤ 99999 then
  ((mX5_noGuesses u).bind fun r16 =>
  if r16.1 = 0 then
  ((mX0_bringBurnt r16.2).bind fun r38 =>
  (mX2_addUp r38 4).bind fun r46 =>
  (mX2_below r46 a1).bind fun r58 =>
  (mX1_setShare r46 r58 (gL r46 0)).bind fun r68 =>
  some (1, r68))
  else
  ((mX5_no r16.2).bind fun r23 =>
  some (r23.1, r23.2)))
  else
  ((mX5_bad u).bind fun r11 =>
  some (r11.1, r11.2)))
abbrev rmX5_leaks : Room := { frames := 10, cells := 0, slots := 0, locals := 217 }
set_option maxRecDepth 100000 in
set_option maxHeartbeats 4000000 in
theorem zX5_leaks (l : Launch) (D : va_G) (cy : Nat → ClassId) (sa : Nat → Nat) (q : Nat → Nat) (rest : va_W) (sz : Nat) (u : KS) (a1 : Int32) (res : Int32 × KS) (hf : mX5_leaks u a1 = some res) : kMi l yX5_leaks (wsK yX5_leaks cX5_leaks 2 (some .int)) rmX5_leaks D cy sa (WX q cy u ++ rest) sz [.ref (q 0), .int a1] res.1 (WX q cy res.2 ++ rest) 0 0 := by
  refine kM_of (Qc := fun A => kQi D A res.1 (WX q cy res.2 ++ rest)) (cc := cX5_leaks) (maxL := 2) (ret := (some .int)) (by decide) (Nat.le_of_ble_eq_true rfl) ?_
  intro p e s m below meth c A hx hb hml hr hts hown hlocks hin hA hP hD hS hE hsz ls hl
  have hown : s.vm.findClass RX5 = some m.cls := hown
  obtain ⟨H, hH0⟩ : ∃ H, H = s.heap := ⟨_, rfl⟩
  obtain ⟨locs, hlocs0⟩ : ∃ locs : List Loc, locs = [] := ⟨_, rfl⟩
  have hP : va_P D vwCl (WX q cy u ++ rest) H := by rw [hH0]; exact hP
  have hS : va_S A s.heap H locs := by rw [hH0, hlocs0]; exact hS
  have hl : lv_has ls 2 [(0, .ref (q 0)), (1, .int a1)] := hl
  suffices hgoal : W p l e rmX5_leaks s m ([.ref (q 0), .int a1] : List Value).toArray below meth c H locs 0 0 (MQ below (kQi D A res.1 (WX q cy res.2 ++ rest)) ([.ref (q 0), .int a1] : List Value).toArray s 0 0 A) (F0 m 0 ls []) by rw [hH0, hlocs0] at hgoal; exact hgoal
  clear hH0 hlocs0
  unfold mX5_leaks at hf
  refine lv_iload_n hx hb dX5_leaks_0 rfl (lv_at hl 1 rfl) ?_
  refine lv_if_lt (tgt := 10) hx hb dX5_leaks_1 (by decide) (fun c1 => ?_) (fun c1 => ?_)
  · have hf := o_ip c1 hf
    refine lv_aload_n hx hb dX5_leaks_10 rfl (lv_at hl 0 rfl) ?_
    obtain ⟨r11, h11r, hf⟩ := o_bs hf
    refine k_goi (va_runV (As := []) (rest := []) ⟨hx, hb, hml, hown, hts⟩ (zX5_bad l D cy sa q rest H.size u  r11 h11r) (cwV 0 hts (gB_V wB113 wB114 wB115 wB2 wB116) rfl rfl rfl (by decide +kernel) ⟨Nat.le_of_ble_eq_true rfl, Nat.le_of_ble_eq_true rfl⟩) ⟨kP.blind, k_recv hE hP (ci := 5) (q0 := 0) rfl rfl, k_pre hP hD hS hE hA⟩ rfl rfl hl.1 rfl (lv_room (Nat.le_of_ble_eq_true rfl)) dX5_leaks_11 ⟨Nat.zero_le _, Nat.zero_le _⟩) hD hS hA (fun H locs hP hD hS => ?_)
    obtain rfl := o_ret hf
    exact k_iret hx hb hr hP hD hS (Nat.zero_le _) (Nat.zero_le _) hlocks dX5_leaks_14
  · have hf := o_in c1 hf
    refine lv_iload_n hx hb dX5_leaks_4 rfl (lv_at hl 1 rfl) ?_
    refine lv_ldc (v := 99999) hx hb hown (hts _ wB670) dX5_leaks_5 ?_
    refine lv_icmp_le (tgt := 15) hx hb dX5_leaks_7 (by decide) (fun c7 => ?_) (fun c7 => ?_)
    · have hf := o_ip c7 hf
      refine lv_aload_n hx hb dX5_leaks_15 rfl (lv_at hl 0 rfl) ?_
      obtain ⟨r16, h16r, hf⟩ := o_bs hf
      refine k_goi (va_runV (As := []) (rest := []) ⟨hx, hb, hml, hown, hts⟩ (zX5_noGuesses l D cy sa q rest H.size u  r16 h16r) (cwV 0 hts (gB_V wB499 wB500 wB501 wB2 wB502) rfl rfl rfl (by decide +kernel) ⟨Nat.le_of_ble_eq_true rfl, Nat.le_of_ble_eq_true rfl⟩) ⟨kP.blind, k_recv hE hP (ci := 5) (q0 := 0) rfl rfl, k_pre hP hD hS hE hA⟩ rfl rfl hl.1 rfl (lv_room (Nat.le_of_ble_eq_true rfl)) dX5_leaks_16 ⟨Nat.zero_le _, Nat.zero_le _⟩) hD hS hA (fun H locs hP hD hS => ?_)
      refine lv_if_eq (tgt := 27) hx hb dX5_leaks_19 (by decide) (fun c19 => ?_) (fun c19 => ?_)
      · have hf := o_ip c19 hf
        refine lv_aload_n hx hb dX5_leaks_27 rfl (lv_at hl 0 rfl) ?_
        refine va_get (ci := 5) (v := .ref (q 10)) (C := RX5) (T := TX5) (N := 9) hx hb hts inlX5 hown hE.1 hP 0 rfl rfl 2 (by decide) (hts _ wB21) (fun _ h9 => h9) rfl dX5_leaks_28 ?_
        refine lv_aload_n hx hb dX5_leaks_31 rfl (lv_at hl 0 rfl) ?_
        refine va_get (ci := 5) (v := .ref (q 15)) (C := RX5) (T := TX5) (N := 9) hx hb hts inlX5 hown hE.1 hP 0 rfl rfl 3 (by decide) (hts _ wB25) (fun _ h9 => h9) rfl dX5_leaks_32 ?_
        refine va_get (ci := 2) (v := .ref (q 16)) (C := RX2) (T := TX2) (N := 4) hx hb hts inlX2 hown hE.1 hP 15 rfl rfl 1 (by decide) (hts _ wB507) (fun _ h9 => h9) rfl dX5_leaks_35 ?_
        obtain ⟨r38, h38r, hf⟩ := o_bs hf
        refine k_gov (va_runV (As := [.ref (q 16)]) (rest := []) ⟨hx, hb, hml, hown, hts⟩ (zX0_bringBurnt l D cy sa q rest H.size r16.2  r38 h38r) (cwV 1 hts (gB_V wB671 wB672 wB673 wB20 wB674) rfl rfl rfl (by decide +kernel) ⟨Nat.le_of_ble_eq_true rfl, Nat.le_of_ble_eq_true rfl⟩) ⟨kP.blind, k_recv hE hP (ci := 0) (q0 := 10) rfl rfl, k_pre hP hD hS hE hA⟩ rfl rfl hl.1 rfl (lv_room (Nat.le_of_ble_eq_true rfl)) dX5_leaks_38 ⟨Nat.zero_le _, Nat.zero_le _⟩) hD hS hA (fun H locs hP hD hS => ?_)
        refine lv_aload_n hx hb dX5_leaks_41 rfl (lv_at hl 0 rfl) ?_
        refine va_get (ci := 5) (v := .ref (q 15)) (C := RX5) (T := TX5) (N := 9) hx hb hts inlX5 hown hE.1 hP 0 rfl rfl 3 (by decide) (hts _ wB25) (fun _ h9 => h9) rfl dX5_leaks_42 ?_
        refine lv_iconst (v := 4) hx hb dX5_leaks_45 (by decide) ?_
        obtain ⟨r46, h46r, hf⟩ := o_bs hf
        refine k_gov (va_runV (As := [.int 4]) (rest := []) ⟨hx, hb, hml, hown, hts⟩ (zX2_addUp l D cy sa q rest H.size r38 4 r46 h46r) (cwV 1 hts (gB_V wB519 wB520 wB521 wB24 wB522) rfl rfl rfl (by decide +kernel) ⟨Nat.le_of_ble_eq_true rfl, Nat.le_of_ble_eq_true rfl⟩) ⟨kP.blind, k_recv hE hP (ci := 2) (q0 := 15) rfl rfl, k_pre hP hD hS hE hA⟩ rfl rfl hl.1 rfl (lv_room (Nat.le_of_ble_eq_true rfl)) dX5_leaks_46 ⟨Nat.zero_le _, Nat.zero_le _⟩) hD hS hA (fun H locs hP hD hS => ?_)
        refine lv_aload_n hx hb dX5_leaks_49 rfl (lv_at hl 0 rfl) ?_
        refine va_get (ci := 5) (v := .ref (q 21)) (C := RX5) (T := TX5) (N := 9) hx hb hts inlX5 hown hE.1 hP 0 rfl rfl 5 (by decide) (hts _ wB33) (fun _ h9 => h9) rfl dX5_leaks_50 ?_
        refine lv_aload_n hx hb dX5_leaks_53 rfl (lv_at hl 0 rfl) ?_
        refine va_get (ci := 5) (v := .ref (q 15)) (C := RX5) (T := TX5) (N := 9) hx hb hts inlX5 hown hE.1 hP 0 rfl rfl 3 (by decide) (hts _ wB25) (fun _ h9 => h9) rfl dX5_leaks_54 ?_
        refine lv_iload_n hx hb dX5_leaks_57 rfl (lv_at hl 1 rfl) ?_
        obtain ⟨r58, h58r, hf⟩ := o_bs hf
        refine k_gol (va_runV (As := [.int a1]) (rest := [.ref (q 21)]) ⟨hx, hb, hml, hown, hts⟩ (zX2_below l D cy sa q rest H.size r46 a1 r58 h58r) (cwV 1 hts (gB_V wB675 wB676 wB677 wB24 wB678) rfl rfl rfl (by decide +kernel) ⟨Nat.le_of_ble_eq_true rfl, Nat.le_of_ble_eq_true rfl⟩) ⟨kP.blind, k_recv hE hP (ci := 2) (q0 := 15) rfl rfl, k_pre hP hD hS hE hA⟩ rfl rfl hl.1 rfl (lv_room (Nat.le_of_ble_eq_true rfl)) dX5_leaks_58 ⟨Nat.zero_le _, Nat.zero_le _⟩) hD hS hA (fun H locs hP hD hS => ?_)
        refine lv_aload_n hx hb dX5_leaks_61 rfl (lv_at hl 0 rfl) ?_
        refine va_get (ci := 5) (v := .ref (q 15)) (C := RX5) (T := TX5) (N := 9) hx hb hts inlX5 hown hE.1 hP 0 rfl rfl 3 (by decide) (hts _ wB25) (fun _ h9 => h9) rfl dX5_leaks_62 ?_
        refine va_get (ci := 2) (v := .long (gL r46 0)) (C := RX2) (T := TX2) (N := 4) hx hb hts inlX2 hown hE.1 hP 15 rfl rfl 0 (by decide) (hts _ wB498) (fun _ h9 => h9) rfl dX5_leaks_65 ?_
        obtain ⟨r68, h68r, hf⟩ := o_bs hf
        refine k_gov (va_runV (As := [.long r58, .long (gL r46 0)]) (rest := []) ⟨hx, hb, hml, hown, hts⟩ (zX1_setShare l D cy sa q rest H.size r46 r58 (gL r46 0) r68 h68r) (cwV 2 hts (gB_V wB546 wB547 wB548 wB32 wB549) rfl rfl rfl (by decide +kernel) ⟨Nat.le_of_ble_eq_true rfl, Nat.le_of_ble_eq_true rfl⟩) ⟨kP.blind, k_recv hE hP (ci := 1) (q0 := 21) rfl rfl, k_pre hP hD hS hE hA⟩ rfl rfl hl.1 rfl (lv_room (Nat.le_of_ble_eq_true rfl)) dX5_leaks_68 ⟨Nat.zero_le _, Nat.zero_le _⟩) hD hS hA (fun H locs hP hD hS => ?_)
        refine lv_iconst (v := 1) hx hb dX5_leaks_71 (by decide) ?_
        obtain rfl := o_ret hf
        exact k_iret hx hb hr hP hD hS (Nat.zero_le _) (Nat.zero_le _) hlocks dX5_leaks_72
      · have hf := o_in c19 hf
        refine lv_aload_n hx hb dX5_leaks_22 rfl (lv_at hl 0 rfl) ?_
        obtain ⟨r23, h23r, hf⟩ := o_bs hf
        refine k_goi (va_runV (As := []) (rest := []) ⟨hx, hb, hml, hown, hts⟩ (zX5_no l D cy sa q rest H.size r16.2  r23 h23r) (cwV 0 hts (gB_V wB320 wB321 wB322 wB2 wB323) rfl rfl rfl (by decide +kernel) ⟨Nat.le_of_ble_eq_true rfl, Nat.le_of_ble_eq_true rfl⟩) ⟨kP.blind, k_recv hE hP (ci := 5) (q0 := 0) rfl rfl, k_pre hP hD hS hE hA⟩ rfl rfl hl.1 rfl (lv_room (Nat.le_of_ble_eq_true rfl)) dX5_leaks_23 ⟨Nat.zero_le _, Nat.zero_le _⟩) hD hS hA (fun H locs hP hD hS => ?_)
        obtain rfl := o_ret hf
        exact k_iret hx hb hr hP hD hS (Nat.zero_le _) (Nat.zero_le _) hlocks dX5_leaks_26
    · have hf := o_in c7 hf
      refine lv_aload_n hx hb dX5_leaks_10 rfl (lv_at hl 0 rfl) ?_
      obtain ⟨r11, h11r, hf⟩ := o_bs hf
      refine k_goi (va_runV (As := []) (rest := []) ⟨hx, hb, hml, hown, hts⟩ (zX5_bad l D cy sa q rest H.size u  r11 h11r) (cwV 0 hts (gB_V wB113 wB114 wB115 wB2 wB116) rfl rfl rfl (by decide +kernel) ⟨Nat.le_of_ble_eq_true rfl, Nat.le_of_ble_eq_true rfl⟩) ⟨kP.blind, k_recv hE hP (ci := 5) (q0 := 0) rfl rfl, k_pre hP hD hS hE hA⟩ rfl rfl hl.1 rfl (lv_room (Nat.le_of_ble_eq_true rfl)) dX5_leaks_11 ⟨Nat.zero_le _, Nat.zero_le _⟩) hD hS hA (fun H locs hP hD hS => ?_)
      obtain rfl := o_ret hf
      exact k_iret hx hb hr hP hD hS (Nat.zero_le _) (Nat.zero_le _) hlocks dX5_leaks_14
noncomputable def mX5_likeliest (u : KS) : Option (Int32 × KS) :=
  (mX5_noGuesses u).bind fun r1 =>
  if r1.1 = 0 then
  ((mX2_greatest r1.2).bind fun r16 =>
  some (r16, r1.2))
  else
  ((mX5_no r1.2).bind fun r8 =>
  some (r8.1, r8.2))
abbrev rmX5_likeliest : Room := { frames := 10, cells := 0, slots := 0, locals := 217 }
set_option maxRecDepth 100000 in
set_option maxHeartbeats 4000000 in
theorem zX5_likeliest (l : Launch) (D : va_G) (cy : Nat → ClassId) (sa : Nat → Nat) (q : Nat → Nat) (rest : va_W) (sz : Nat) (u : KS) (res : Int32 × KS) (hf : mX5_likeliest u = some res) : kMi l yX5_likeliest (wsK yX5_likeliest cX5_likeliest 1 (some .int)) rmX5_likeliest D cy sa (WX q cy u ++ rest) sz [.ref (q 0)] res.1 (WX q cy res.2 ++ rest) 0 0 := by
  refine kM_of (Qc := fun A => kQi D A res.1 (WX q cy res.2 ++ rest)) (cc := cX5_likeliest) (maxL := 1) (ret := (some .int)) (by decide) (Nat.le_of_ble_eq_true rfl) ?_
  intro p e s m below meth c A hx hb hml hr hts hown hlocks hin hA hP hD hS hE hsz ls hl
  have hown : s.vm.findClass RX5 = some m.cls := hown
  obtain ⟨H, hH0⟩ : ∃ H, H = s.heap := ⟨_, rfl⟩
  obtain ⟨locs, hlocs0⟩ : ∃ locs : List Loc, locs = [] := ⟨_, rfl⟩
  have hP : va_P D vwCl (WX q cy u ++ rest) H := by rw [hH0]; exact hP
  have hS : va_S A s.heap H locs := by rw [hH0, hlocs0]; exact hS
  have hl : lv_has ls 1 [(0, .ref (q 0))] := hl
  suffices hgoal : W p l e rmX5_likeliest s m ([.ref (q 0)] : List Value).toArray below meth c H locs 0 0 (MQ below (kQi D A res.1 (WX q cy res.2 ++ rest)) ([.ref (q 0)] : List Value).toArray s 0 0 A) (F0 m 0 ls []) by rw [hH0, hlocs0] at hgoal; exact hgoal
  clear hH0 hlocs0
  unfold mX5_likeliest at hf
  refine lv_aload_n hx hb dX5_likeliest_0 rfl (lv_at hl 0 rfl) ?_
  obtain ⟨r1, h1r, hf⟩ := o_bs hf
  refine k_goi (va_runV (As := []) (rest := []) ⟨hx, hb, hml, hown, hts⟩ (zX5_noGuesses l D cy sa q rest H.size u  r1 h1r) (cwV 0 hts (gB_V wB499 wB500 wB501 wB2 wB502) rfl rfl rfl (by decide +kernel) ⟨Nat.le_of_ble_eq_true rfl, Nat.le_of_ble_eq_true rfl⟩) ⟨kP.blind, k_recv hE hP (ci := 5) (q0 := 0) rfl rfl, k_pre hP hD hS hE hA⟩ rfl rfl hl.1 rfl (lv_room (Nat.le_of_ble_eq_true rfl)) dX5_likeliest_1 ⟨Nat.zero_le _, Nat.zero_le _⟩) hD hS hA (fun H locs hP hD hS => ?_)
  refine lv_if_eq (tgt := 12) hx hb dX5_likeliest_4 (by decide) (fun c4 => ?_) (fun c4 => ?_)
  · have hf := o_ip c4 hf
    refine lv_aload_n hx hb dX5_likeliest_12 rfl (lv_at hl 0 rfl) ?_
    refine va_get (ci := 5) (v := .ref (q 15)) (C := RX5) (T := TX5) (N := 9) hx hb hts inlX5 hown hE.1 hP 0 rfl rfl 3 (by decide) (hts _ wB25) (fun _ h9 => h9) rfl dX5_likeliest_13 ?_
    obtain ⟨r16, h16r, hf⟩ := o_bs hf
    refine k_goi (va_runV (As := []) (rest := []) ⟨hx, hb, hml, hown, hts⟩ (zX2_greatest l D cy sa q rest H.size r1.2  r16 h16r) (cwV 0 hts (gB_V wB630 wB631 wB632 wB24 wB633) rfl rfl rfl (by decide +kernel) ⟨Nat.le_of_ble_eq_true rfl, Nat.le_of_ble_eq_true rfl⟩) ⟨kP.blind, k_recv hE hP (ci := 2) (q0 := 15) rfl rfl, k_pre hP hD hS hE hA⟩ rfl rfl hl.1 rfl (lv_room (Nat.le_of_ble_eq_true rfl)) dX5_likeliest_16 ⟨Nat.zero_le _, Nat.zero_le _⟩) hD hS hA (fun H locs hP hD hS => ?_)
    obtain rfl := o_ret hf
    exact k_iret hx hb hr hP hD hS (Nat.zero_le _) (Nat.zero_le _) hlocks dX5_likeliest_19
  · have hf := o_in c4 hf
    refine lv_aload_n hx hb dX5_likeliest_7 rfl (lv_at hl 0 rfl) ?_
    obtain ⟨r8, h8r, hf⟩ := o_bs hf
    refine k_goi (va_runV (As := []) (rest := []) ⟨hx, hb, hml, hown, hts⟩ (zX5_no l D cy sa q rest H.size r1.2  r8 h8r) (cwV 0 hts (gB_V wB320 wB321 wB322 wB2 wB323) rfl rfl rfl (by decide +kernel) ⟨Nat.le_of_ble_eq_true rfl, Nat.le_of_ble_eq_true rfl⟩) ⟨kP.blind, k_recv hE hP (ci := 5) (q0 := 0) rfl rfl, k_pre hP hD hS hE hA⟩ rfl rfl hl.1 rfl (lv_room (Nat.le_of_ble_eq_true rfl)) dX5_likeliest_8 ⟨Nat.zero_le _, Nat.zero_le _⟩) hD hS hA (fun H locs hP hD hS => ?_)
    obtain rfl := o_ret hf
    exact k_iret hx hb hr hP hD hS (Nat.zero_le _) (Nat.zero_le _) hlocks dX5_likeliest_11
noncomputable def mX5_limb (u : KS) (a1 : Int32) (a2 : Int32) : Option (Int32 × KS) :=
  if a1 < 0 then
  ((mX5_bad u).bind fun r14 =>
  some (r14.1, r14.2))
  else
  (if 1 < a1 then
  ((mX5_bad u).bind fun r14 =>
  some (r14.1, r14.2))
  else
  (if 0 ≤ a2 then
  ((mX5_signOf u (a1 + 1)).bind fun r23 =>
  if a2 < r23 then
  ((mX1_limbOf u a1 a2).bind fun r37 =>
  some (r37, u))
  else
  (some ((-1), u)))
  else
  ((mX5_bad u).bind fun r14 =>
  some (r14.1, r14.2))))
abbrev rmX5_limb : Room := { frames := 3, cells := 0, slots := 0, locals := 64 }
set_option maxRecDepth 100000 in
set_option maxHeartbeats 4000000 in
theorem zX5_limb (l : Launch) (D : va_G) (cy : Nat → ClassId) (sa : Nat → Nat) (q : Nat → Nat) (rest : va_W) (sz : Nat) (u : KS) (a1 : Int32) (a2 : Int32) (res : Int32 × KS) (hf : mX5_limb u a1 a2 = some res) : kMi l yX5_limb (wsK yX5_limb cX5_limb 3 (some .int)) rmX5_limb D cy sa (WX q cy u ++ rest) sz [.ref (q 0), .int a1, .int a2] res.1 (WX q cy res.2 ++ rest) 0 0 := by
  refine kM_of (Qc := fun A => kQi D A res.1 (WX q cy res.2 ++ rest)) (cc := cX5_limb) (maxL := 3) (ret := (some .int)) (by decide) (Nat.le_of_ble_eq_true rfl) ?_
  intro p e s m below meth c A hx hb hml hr hts hown hlocks hin hA hP hD hS hE hsz ls hl
  have hown : s.vm.findClass RX5 = some m.cls := hown
  obtain ⟨H, hH0⟩ : ∃ H, H = s.heap := ⟨_, rfl⟩
  obtain ⟨locs, hlocs0⟩ : ∃ locs : List Loc, locs = [] := ⟨_, rfl⟩
  have hP : va_P D vwCl (WX q cy u ++ rest) H := by rw [hH0]; exact hP
  have hS : va_S A s.heap H locs := by rw [hH0, hlocs0]; exact hS
  have hl : lv_has ls 3 [(0, .ref (q 0)), (1, .int a1), (2, .int a2)] := hl
  suffices hgoal : W p l e rmX5_limb s m ([.ref (q 0), .int a1, .int a2] : List Value).toArray below meth c H locs 0 0 (MQ below (kQi D A res.1 (WX q cy res.2 ++ rest)) ([.ref (q 0), .int a1, .int a2] : List Value).toArray s 0 0 A) (F0 m 0 ls []) by rw [hH0, hlocs0] at hgoal; exact hgoal
  clear hH0 hlocs0
  unfold mX5_limb at hf
  refine lv_iload_n hx hb dX5_limb_0 rfl (lv_at hl 1 rfl) ?_
  refine lv_if_lt (tgt := 13) hx hb dX5_limb_1 (by decide) (fun c1 => ?_) (fun c1 => ?_)
  · have hf := o_ip c1 hf
    refine lv_aload_n hx hb dX5_limb_13 rfl (lv_at hl 0 rfl) ?_
    obtain ⟨r14, h14r, hf⟩ := o_bs hf
    refine k_goi (va_runV (As := []) (rest := []) ⟨hx, hb, hml, hown, hts⟩ (zX5_bad l D cy sa q rest H.size u  r14 h14r) (cwV 0 hts (gB_V wB113 wB114 wB115 wB2 wB116) rfl rfl rfl (by decide +kernel) ⟨Nat.le_of_ble_eq_true rfl, Nat.le_of_ble_eq_true rfl⟩) ⟨kP.blind, k_recv hE hP (ci := 5) (q0 := 0) rfl rfl, k_pre hP hD hS hE hA⟩ rfl rfl hl.1 rfl (lv_room (Nat.le_of_ble_eq_true rfl)) dX5_limb_14 ⟨Nat.zero_le _, Nat.zero_le _⟩) hD hS hA (fun H locs hP hD hS => ?_)
    obtain rfl := o_ret hf
    exact k_iret hx hb hr hP hD hS (Nat.zero_le _) (Nat.zero_le _) hlocks dX5_limb_17
  · have hf := o_in c1 hf
    refine lv_iload_n hx hb dX5_limb_4 rfl (lv_at hl 1 rfl) ?_
    refine lv_iconst (v := 1) hx hb dX5_limb_5 (by decide) ?_
    refine lv_icmp_gt (tgt := 13) hx hb dX5_limb_6 (by decide) (fun c6 => ?_) (fun c6 => ?_)
    · have hf := o_ip c6 hf
      refine lv_aload_n hx hb dX5_limb_13 rfl (lv_at hl 0 rfl) ?_
      obtain ⟨r14, h14r, hf⟩ := o_bs hf
      refine k_goi (va_runV (As := []) (rest := []) ⟨hx, hb, hml, hown, hts⟩ (zX5_bad l D cy sa q rest H.size u  r14 h14r) (cwV 0 hts (gB_V wB113 wB114 wB115 wB2 wB116) rfl rfl rfl (by decide +kernel) ⟨Nat.le_of_ble_eq_true rfl, Nat.le_of_ble_eq_true rfl⟩) ⟨kP.blind, k_recv hE hP (ci := 5) (q0 := 0) rfl rfl, k_pre hP hD hS hE hA⟩ rfl rfl hl.1 rfl (lv_room (Nat.le_of_ble_eq_true rfl)) dX5_limb_14 ⟨Nat.zero_le _, Nat.zero_le _⟩) hD hS hA (fun H locs hP hD hS => ?_)
      obtain rfl := o_ret hf
      exact k_iret hx hb hr hP hD hS (Nat.zero_le _) (Nat.zero_le _) hlocks dX5_limb_17
    · have hf := o_in c6 hf
      refine lv_iload_n hx hb dX5_limb_9 rfl (lv_at hl 2 rfl) ?_
      refine lv_if_ge (tgt := 18) hx hb dX5_limb_10 (by decide) (fun c10 => ?_) (fun c10 => ?_)
      · have hf := o_ip c10 hf
        refine lv_iload_n hx hb dX5_limb_18 rfl (lv_at hl 2 rfl) ?_
        refine lv_aload_n hx hb dX5_limb_19 rfl (lv_at hl 0 rfl) ?_
        refine lv_iload_n hx hb dX5_limb_20 rfl (lv_at hl 1 rfl) ?_
        refine lv_iconst (v := 1) hx hb dX5_limb_21 (by decide) ?_
        refine lv_iadd hx hb dX5_limb_22 ?_
        obtain ⟨r23, h23r, hf⟩ := o_bs hf
        refine k_goi (va_runV (As := [.int (a1 + 1)]) (rest := [.int a2]) ⟨hx, hb, hml, hown, hts⟩ (zX5_signOf l D cy sa q rest H.size u (a1 + 1) r23 h23r) (cwV 1 hts (gB_V wB816 wB817 wB818 wB2 wB819) rfl rfl rfl (by decide +kernel) ⟨Nat.le_of_ble_eq_true rfl, Nat.le_of_ble_eq_true rfl⟩) ⟨kP.blind, k_recv hE hP (ci := 5) (q0 := 0) rfl rfl, k_pre hP hD hS hE hA⟩ rfl rfl hl.1 rfl (lv_room (Nat.le_of_ble_eq_true rfl)) dX5_limb_23 ⟨Nat.zero_le _, Nat.zero_le _⟩) hD hS hA (fun H locs hP hD hS => ?_)
        refine lv_icmp_lt (tgt := 31) hx hb dX5_limb_26 (by decide) (fun c26 => ?_) (fun c26 => ?_)
        · have hf := o_ip c26 hf
          refine lv_aload_n hx hb dX5_limb_31 rfl (lv_at hl 0 rfl) ?_
          refine va_get (ci := 5) (v := .ref (q 21)) (C := RX5) (T := TX5) (N := 9) hx hb hts inlX5 hown hE.1 hP 0 rfl rfl 5 (by decide) (hts _ wB33) (fun _ h9 => h9) rfl dX5_limb_32 ?_
          refine lv_iload_n hx hb dX5_limb_35 rfl (lv_at hl 1 rfl) ?_
          refine lv_iload_n hx hb dX5_limb_36 rfl (lv_at hl 2 rfl) ?_
          obtain ⟨r37, h37r, hf⟩ := o_bs hf
          refine k_goi (va_runV (As := [.int a1, .int a2]) (rest := []) ⟨hx, hb, hml, hown, hts⟩ (zX1_limbOf l D cy sa q rest H.size u a1 a2 r37 h37r) (cwV 2 hts (gB_V wB837 wB838 wB839 wB32 wB840) rfl rfl rfl (by decide +kernel) ⟨Nat.le_of_ble_eq_true rfl, Nat.le_of_ble_eq_true rfl⟩) ⟨kP.blind, k_recv hE hP (ci := 1) (q0 := 21) rfl rfl, k_pre hP hD hS hE hA⟩ rfl rfl hl.1 rfl (lv_room (Nat.le_of_ble_eq_true rfl)) dX5_limb_37 ⟨Nat.zero_le _, Nat.zero_le _⟩) hD hS hA (fun H locs hP hD hS => ?_)
          obtain rfl := o_ret hf
          exact k_iret hx hb hr hP hD hS (Nat.zero_le _) (Nat.zero_le _) hlocks dX5_limb_40
        · have hf := o_in c26 hf
          refine lv_iconst (v := (-1)) hx hb dX5_limb_29 (by decide) ?_
          obtain rfl := o_ret hf
          exact k_iret hx hb hr hP hD hS (Nat.zero_le _) (Nat.zero_le _) hlocks dX5_limb_30
      · have hf := o_in c10 hf
        refine lv_aload_n hx hb dX5_limb_13 rfl (lv_at hl 0 rfl) ?_
        obtain ⟨r14, h14r, hf⟩ := o_bs hf
        refine k_goi (va_runV (As := []) (rest := []) ⟨hx, hb, hml, hown, hts⟩ (zX5_bad l D cy sa q rest H.size u  r14 h14r) (cwV 0 hts (gB_V wB113 wB114 wB115 wB2 wB116) rfl rfl rfl (by decide +kernel) ⟨Nat.le_of_ble_eq_true rfl, Nat.le_of_ble_eq_true rfl⟩) ⟨kP.blind, k_recv hE hP (ci := 5) (q0 := 0) rfl rfl, k_pre hP hD hS hE hA⟩ rfl rfl hl.1 rfl (lv_room (Nat.le_of_ble_eq_true rfl)) dX5_limb_14 ⟨Nat.zero_le _, Nat.zero_le _⟩) hD hS hA (fun H locs hP hD hS => ?_)
        obtain rfl := o_ret hf
        exact k_iret hx hb hr hP hD hS (Nat.zero_le _) (Nat.zero_le _) hlocks dX5_limb_17
noncomputable def mX5_look (u : KS) (a1 : Int32) (a2 : Int32) (a3 : Int32) (a4 : Int32) : Option (Int32 × KS) :=
  if a1 < 0 then
  ((mX5_bad u).bind fun r48 =>
  some (r48.1, r48.2))
  else
  (if 120 ≤ a1 then
  ((mX5_bad u).bind fun r48 =>
  some (r48.1, r48.2))
  else
  ((mX5_isColor a2).bind fun r11 =>
  if r11 = 0 then
  ((mX5_bad u).bind fun r48 =>
  some (r48.1, r48.2))
  else
  ((mX5_isCut a3).bind fun r18 =>
  if r18 = 0 then
  ((mX5_bad u).bind fun r48 =>
  some (r48.1, r48.2))
  else
  (if a4 < 0 then
  ((mX5_bad u).bind fun r48 =>
  some (r48.1, r48.2))
  else
  (if a4 < 3 then
  (if (gI u 3) < 8 then
  ((mX5_set 32 (gR u 5) ((gI u 3) * 4) a1).bind fun r90 =>
  (mX5_set 32 r90 (((gI u 3) * 4) + 1) a2).bind fun r105 =>
  (mX5_set 32 r105 (((gI u 3) * 4) + 2) a3).bind fun r120 =>
  (mX5_set 32 r120 (((gI u 3) * 4) + 3) a4).bind fun r136 =>
  some ((gI u 3), (sR (sI (sI u 1 1) 3 ((gI u 3) + 1)) 5 r136)))
  else
  ((mX5_full u).bind fun r65 =>
  some (r65.1, r65.2)))
  else
  ((mX5_bad u).bind fun r48 =>
  some (r48.1, r48.2)))))))
abbrev rmX5_look : Room := { frames := 3, cells := 0, slots := 0, locals := 64 }
set_option maxRecDepth 100000 in
set_option maxHeartbeats 4000000 in
theorem zX5_look (l : Launch) (D : va_G) (cy : Nat → ClassId) (sa : Nat → Nat) (q : Nat → Nat) (rest : va_W) (sz : Nat) (u : KS) (a1 : Int32) (a2 : Int32) (a3 : Int32) (a4 : Int32) (res : Int32 × KS) (hf : mX5_look u a1 a2 a3 a4 = some res) : kMi l yX5_look (wsK yX5_look cX5_look 7 (some .int)) rmX5_look D cy sa (WX q cy u ++ rest) sz [.ref (q 0), .int a1, .int a2, .int a3, .int a4] res.1 (WX q cy res.2 ++ rest) 0 0 := by
  refine kM_of (Qc := fun A => kQi D A res.1 (WX q cy res.2 ++ rest)) (cc := cX5_look) (maxL := 7) (ret := (some .int)) (by decide) (Nat.le_of_ble_eq_true rfl) ?_
  intro p e s m below meth c A hx hb hml hr hts hown hlocks hin hA hP hD hS hE hsz ls hl
  have hown : s.vm.findClass RX5 = some m.cls := hown
  obtain ⟨H, hH0⟩ : ∃ H, H = s.heap := ⟨_, rfl⟩
  obtain ⟨locs, hlocs0⟩ : ∃ locs : List Loc, locs = [] := ⟨_, rfl⟩
  have hP : va_P D vwCl (WX q cy u ++ rest) H := by rw [hH0]; exact hP
  have hS : va_S A s.heap H locs := by rw [hH0, hlocs0]; exact hS
  have hl : lv_has ls 7 [(0, .ref (q 0)), (1, .int a1), (2, .int a2), (3, .int a3), (4, .int a4)] := hl
  suffices hgoal : W p l e rmX5_look s m ([.ref (q 0), .int a1, .int a2, .int a3, .int a4] : List Value).toArray below meth c H locs 0 0 (MQ below (kQi D A res.1 (WX q cy res.2 ++ rest)) ([.ref (q 0), .int a1, .int a2, .int a3, .int a4] : List Value).toArray s 0 0 A) (F0 m 0 ls []) by rw [hH0, hlocs0] at hgoal; exact hgoal
  clear hH0 hlocs0
  unfold mX5_look at hf
  refine lv_iload_n hx hb dX5_look_0 rfl (lv_at hl 1 rfl) ?_
  refine lv_if_lt (tgt := 28) hx hb dX5_look_1 (by decide) (fun c1 => ?_) (fun c1 => ?_)
  · have hf := o_ip c1 hf
    refine lv_iconst (v := 0) hx hb dX5_look_28 (by decide) ?_
    refine lv_istore (lv' := [(5, .int 0), (0, .ref (q 0)), (1, .int a1), (2, .int a2), (3, .int a3), (4, .int a4)]) hx hb dX5_look_29 hl (by decide) rfl (fun ls hl => ?_)
    refine lv_iload hx hb dX5_look_31 (lv_at hl 0 rfl) ?_
    refine lv_if_eq (tgt := 47) hx hb dX5_look_33 (by decide) (fun c33 => ?_) (fun c33 => absurd c33 (by decide))
    refine lv_aload_n hx hb dX5_look_47 rfl (lv_at hl 1 rfl) ?_
    obtain ⟨r48, h48r, hf⟩ := o_bs hf
    refine k_goi (va_runV (As := []) (rest := []) ⟨hx, hb, hml, hown, hts⟩ (zX5_bad l D cy sa q rest H.size u  r48 h48r) (cwV 0 hts (gB_V wB113 wB114 wB115 wB2 wB116) rfl rfl rfl (by decide +kernel) ⟨Nat.le_of_ble_eq_true rfl, Nat.le_of_ble_eq_true rfl⟩) ⟨kP.blind, k_recv hE hP (ci := 5) (q0 := 0) rfl rfl, k_pre hP hD hS hE hA⟩ rfl rfl hl.1 rfl (lv_room (Nat.le_of_ble_eq_true rfl)) dX5_look_48 ⟨Nat.zero_le _, Nat.zero_le _⟩) hD hS hA (fun H locs hP hD hS => ?_)
    obtain rfl := o_ret hf
    exact k_iret hx hb hr hP hD hS (Nat.zero_le _) (Nat.zero_le _) hlocks dX5_look_51
  · have hf := o_in c1 hf
    refine lv_iload_n hx hb dX5_look_4 rfl (lv_at hl 1 rfl) ?_
    refine lv_bipush (v := 120) hx hb dX5_look_5 (by decide) ?_
    refine lv_icmp_ge (tgt := 28) hx hb dX5_look_7 (by decide) (fun c7 => ?_) (fun c7 => ?_)
    · have hf := o_ip c7 hf
      refine lv_iconst (v := 0) hx hb dX5_look_28 (by decide) ?_
      refine lv_istore (lv' := [(5, .int 0), (0, .ref (q 0)), (1, .int a1), (2, .int a2), (3, .int a3), (4, .int a4)]) hx hb dX5_look_29 hl (by decide) rfl (fun ls hl => ?_)
      refine lv_iload hx hb dX5_look_31 (lv_at hl 0 rfl) ?_
      refine lv_if_eq (tgt := 47) hx hb dX5_look_33 (by decide) (fun c33 => ?_) (fun c33 => absurd c33 (by decide))
      refine lv_aload_n hx hb dX5_look_47 rfl (lv_at hl 1 rfl) ?_
      obtain ⟨r48, h48r, hf⟩ := o_bs hf
      refine k_goi (va_runV (As := []) (rest := []) ⟨hx, hb, hml, hown, hts⟩ (zX5_bad l D cy sa q rest H.size u  r48 h48r) (cwV 0 hts (gB_V wB113 wB114 wB115 wB2 wB116) rfl rfl rfl (by decide +kernel) ⟨Nat.le_of_ble_eq_true rfl, Nat.le_of_ble_eq_true rfl⟩) ⟨kP.blind, k_recv hE hP (ci := 5) (q0 := 0) rfl rfl, k_pre hP hD hS hE hA⟩ rfl rfl hl.1 rfl (lv_room (Nat.le_of_ble_eq_true rfl)) dX5_look_48 ⟨Nat.zero_le _, Nat.zero_le _⟩) hD hS hA (fun H locs hP hD hS => ?_)
      obtain rfl := o_ret hf
      exact k_iret hx hb hr hP hD hS (Nat.zero_le _) (Nat.zero_le _) hlocks dX5_look_51
    · have hf := o_in c7 hf
      refine lv_iload_n hx hb dX5_look_10 rfl (lv_at hl 2 rfl) ?_
      obtain ⟨r11, h11r, hf⟩ := o_bs hf
      refine k_goi (va_runS (As := [.int a2]) (rest := []) ⟨hx, hb, hml, hown, hts⟩ (zX5_isColor l D cy sa (WX q cy u ++ rest) H.size a2  r11  h11r) (va_cwS 1 hts (gB_S wB409 wB410 wB2 wB411) rfl rfl rfl (by decide +kernel) ⟨Nat.le_of_ble_eq_true rfl, Nat.le_of_ble_eq_true rfl⟩) ⟨kP.blind, k_pre hP hD hS hE hA⟩ rfl rfl hl.1 rfl (lv_room (Nat.le_of_ble_eq_true rfl)) dX5_look_11 ⟨Nat.zero_le _, Nat.zero_le _⟩) hD hS hA (fun H locs hP hD hS => ?_)
      refine lv_if_eq (tgt := 28) hx hb dX5_look_14 (by decide) (fun c14 => ?_) (fun c14 => ?_)
      · have hf := o_ip c14 hf
        refine lv_iconst (v := 0) hx hb dX5_look_28 (by decide) ?_
        refine lv_istore (lv' := [(5, .int 0), (0, .ref (q 0)), (1, .int a1), (2, .int a2), (3, .int a3), (4, .int a4)]) hx hb dX5_look_29 hl (by decide) rfl (fun ls hl => ?_)
        refine lv_iload hx hb dX5_look_31 (lv_at hl 0 rfl) ?_
        refine lv_if_eq (tgt := 47) hx hb dX5_look_33 (by decide) (fun c33 => ?_) (fun c33 => absurd c33 (by decide))
        refine lv_aload_n hx hb dX5_look_47 rfl (lv_at hl 1 rfl) ?_
        obtain ⟨r48, h48r, hf⟩ := o_bs hf
        refine k_goi (va_runV (As := []) (rest := []) ⟨hx, hb, hml, hown, hts⟩ (zX5_bad l D cy sa q rest H.size u  r48 h48r) (cwV 0 hts (gB_V wB113 wB114 wB115 wB2 wB116) rfl rfl rfl (by decide +kernel) ⟨Nat.le_of_ble_eq_true rfl, Nat.le_of_ble_eq_true rfl⟩) ⟨kP.blind, k_recv hE hP (ci := 5) (q0 := 0) rfl rfl, k_pre hP hD hS hE hA⟩ rfl rfl hl.1 rfl (lv_room (Nat.le_of_ble_eq_true rfl)) dX5_look_48 ⟨Nat.zero_le _, Nat.zero_le _⟩) hD hS hA (fun H locs hP hD hS => ?_)
        obtain rfl := o_ret hf
        exact k_iret hx hb hr hP hD hS (Nat.zero_le _) (Nat.zero_le _) hlocks dX5_look_51
      · have hf := o_in c14 hf
        refine lv_iload_n hx hb dX5_look_17 rfl (lv_at hl 3 rfl) ?_
        obtain ⟨r18, h18r, hf⟩ := o_bs hf
        refine k_goi (va_runS (As := [.int a3]) (rest := []) ⟨hx, hb, hml, hown, hts⟩ (zX5_isCut l D cy sa (WX q cy u ++ rest) H.size a3  r18  h18r) (va_cwS 1 hts (gB_S wB450 wB451 wB2 wB452) rfl rfl rfl (by decide +kernel) ⟨Nat.le_of_ble_eq_true rfl, Nat.le_of_ble_eq_true rfl⟩) ⟨kP.blind, k_pre hP hD hS hE hA⟩ rfl rfl hl.1 rfl (lv_room (Nat.le_of_ble_eq_true rfl)) dX5_look_18 ⟨Nat.zero_le _, Nat.zero_le _⟩) hD hS hA (fun H locs hP hD hS => ?_)
        refine lv_if_eq (tgt := 28) hx hb dX5_look_21 (by decide) (fun c21 => ?_) (fun c21 => ?_)
        · have hf := o_ip c21 hf
          refine lv_iconst (v := 0) hx hb dX5_look_28 (by decide) ?_
          refine lv_istore (lv' := [(5, .int 0), (0, .ref (q 0)), (1, .int a1), (2, .int a2), (3, .int a3), (4, .int a4)]) hx hb dX5_look_29 hl (by decide) rfl (fun ls hl => ?_)
          refine lv_iload hx hb dX5_look_31 (lv_at hl 0 rfl) ?_
          refine lv_if_eq (tgt := 47) hx hb dX5_look_33 (by decide) (fun c33 => ?_) (fun c33 => absurd c33 (by decide))
          refine lv_aload_n hx hb dX5_look_47 rfl (lv_at hl 1 rfl) ?_
          obtain ⟨r48, h48r, hf⟩ := o_bs hf
          refine k_goi (va_runV (As := []) (rest := []) ⟨hx, hb, hml, hown, hts⟩ (zX5_bad l D cy sa q rest H.size u  r48 h48r) (cwV 0 hts (gB_V wB113 wB114 wB115 wB2 wB116) rfl rfl rfl (by decide +kernel) ⟨Nat.le_of_ble_eq_true rfl, Nat.le_of_ble_eq_true rfl⟩) ⟨kP.blind, k_recv hE hP (ci := 5) (q0 := 0) rfl rfl, k_pre hP hD hS hE hA⟩ rfl rfl hl.1 rfl (lv_room (Nat.le_of_ble_eq_true rfl)) dX5_look_48 ⟨Nat.zero_le _, Nat.zero_le _⟩) hD hS hA (fun H locs hP hD hS => ?_)
          obtain rfl := o_ret hf
          exact k_iret hx hb hr hP hD hS (Nat.zero_le _) (Nat.zero_le _) hlocks dX5_look_51
        · have hf := o_in c21 hf
          refine lv_iconst (v := 1) hx hb dX5_look_24 (by decide) ?_
          refine lv_goto (tgt := 29) hx hb dX5_look_25 (by decide) ?_
          refine lv_istore (lv' := [(5, .int 1), (0, .ref (q 0)), (1, .int a1), (2, .int a2), (3, .int a3), (4, .int a4)]) hx hb dX5_look_29 hl (by decide) rfl (fun ls hl => ?_)
          refine lv_iload hx hb dX5_look_31 (lv_at hl 0 rfl) ?_
          refine lv_if_eq (tgt := 47) hx hb dX5_look_33 (by decide) (fun c33 => absurd c33 (by decide)) (fun c33 => ?_)
          refine lv_iload hx hb dX5_look_36 (lv_at hl 5 rfl) ?_
          refine lv_if_lt (tgt := 47) hx hb dX5_look_38 (by decide) (fun c38 => ?_) (fun c38 => ?_)
          · have hf := o_ip c38 hf
            refine lv_aload_n hx hb dX5_look_47 rfl (lv_at hl 1 rfl) ?_
            obtain ⟨r48, h48r, hf⟩ := o_bs hf
            refine k_goi (va_runV (As := []) (rest := []) ⟨hx, hb, hml, hown, hts⟩ (zX5_bad l D cy sa q rest H.size u  r48 h48r) (cwV 0 hts (gB_V wB113 wB114 wB115 wB2 wB116) rfl rfl rfl (by decide +kernel) ⟨Nat.le_of_ble_eq_true rfl, Nat.le_of_ble_eq_true rfl⟩) ⟨kP.blind, k_recv hE hP (ci := 5) (q0 := 0) rfl rfl, k_pre hP hD hS hE hA⟩ rfl rfl hl.1 rfl (lv_room (Nat.le_of_ble_eq_true rfl)) dX5_look_48 ⟨Nat.zero_le _, Nat.zero_le _⟩) hD hS hA (fun H locs hP hD hS => ?_)
            obtain rfl := o_ret hf
            exact k_iret hx hb hr hP hD hS (Nat.zero_le _) (Nat.zero_le _) hlocks dX5_look_51
          · have hf := o_in c38 hf
            refine lv_iload hx hb dX5_look_41 (lv_at hl 5 rfl) ?_
            refine lv_iconst (v := 3) hx hb dX5_look_43 (by decide) ?_
            refine lv_icmp_lt (tgt := 52) hx hb dX5_look_44 (by decide) (fun c44 => ?_) (fun c44 => ?_)
            · have hf := o_ip c44 hf
              refine lv_aload_n hx hb dX5_look_52 rfl (lv_at hl 1 rfl) ?_
              refine va_get (ci := 5) (v := .ref (q 3)) (C := RX5) (T := TX5) (N := 9) hx hb hts inlX5 hown hE.1 hP 0 rfl rfl 0 (by decide) (hts _ wB16) (fun _ h9 => h9) rfl dX5_look_53 ?_
              refine va_get (ci := 3) (v := .int (gI u 3)) (C := RX3) (T := TX3) (N := 9) hx hb hts inlX3 hown hE.1 hP 3 rfl rfl 6 (by decide) (hts _ wB478) (fun _ h9 => h9) rfl dX5_look_56 ?_
              refine lv_bipush (v := 8) hx hb dX5_look_59 (by decide) ?_
              refine lv_icmp_lt (tgt := 69) hx hb dX5_look_61 (by decide) (fun c61 => ?_) (fun c61 => ?_)
              · have hf := o_ip c61 hf
                refine lv_aload_n hx hb dX5_look_69 rfl (lv_at hl 1 rfl) ?_
                refine va_get (ci := 5) (v := .ref (q 3)) (C := RX5) (T := TX5) (N := 9) hx hb hts inlX5 hown hE.1 hP 0 rfl rfl 0 (by decide) (hts _ wB16) (fun _ h9 => h9) rfl dX5_look_70 ?_
                refine va_get (ci := 3) (v := .int (gI u 3)) (C := RX3) (T := TX3) (N := 9) hx hb hts inlX3 hown hE.1 hP 3 rfl rfl 6 (by decide) (hts _ wB478) (fun _ h9 => h9) rfl dX5_look_73 ?_
                refine lv_iconst (v := 4) hx hb dX5_look_76 (by decide) ?_
                refine lv_imul hx hb dX5_look_77 ?_
                refine lv_istore (lv' := [(6, .int ((gI u 3) * 4)), (5, .int 1), (0, .ref (q 0)), (1, .int a1), (2, .int a2), (3, .int a3), (4, .int a4)]) hx hb dX5_look_78 hl (by decide) rfl (fun ls hl => ?_)
                refine lv_aload_n hx hb dX5_look_80 rfl (lv_at hl 2 rfl) ?_
                refine va_get (ci := 5) (v := .ref (q 3)) (C := RX5) (T := TX5) (N := 9) hx hb hts inlX5 hown hE.1 hP 0 rfl rfl 0 (by decide) (hts _ wB16) (fun _ h9 => h9) rfl dX5_look_81 ?_
                refine va_get (ci := 3) (v := .ref (q 8)) (C := RX3) (T := TX3) (N := 9) hx hb hts inlX3 hown hE.1 hP 3 rfl rfl 5 (by decide) (hts _ wB479) (fun _ h9 => h9) rfl dX5_look_84 ?_
                refine lv_iload hx hb dX5_look_87 (lv_at hl 0 rfl) ?_
                refine lv_iload_n hx hb dX5_look_89 rfl (lv_at hl 3 rfl) ?_
                obtain ⟨r90, h90r, hf⟩ := o_bs hf
                refine k_gov (va_runS (As := [.ref (q 8), .int ((gI u 3) * 4), .int a1]) (rest := []) ⟨hx, hb, hml, hown, hts⟩ (zX5_set l D cy sa (WX q cy u ++ rest) H.size 8 (q 8) 32 (gR u 5) ((gI u 3) * 4) a1 r90 rfl h90r) (va_cwS 3 hts (gB_S wB124 wB125 wB2 wB126) rfl rfl rfl (by decide +kernel) ⟨Nat.le_of_ble_eq_true rfl, Nat.le_of_ble_eq_true rfl⟩) ⟨kP.blind, k_pre hP hD hS hE hA⟩ rfl rfl hl.1 rfl (lv_room (Nat.le_of_ble_eq_true rfl)) dX5_look_90 ⟨Nat.zero_le _, Nat.zero_le _⟩) hD hS hA (fun H locs hP hD hS => ?_)
                have hP : va_P D vwCl (WX q cy (sR u 5 r90) ++ rest) H := hP
                have hD : va_D A (WX q cy (sR u 5 r90) ++ rest) := hD
                refine lv_aload_n hx hb dX5_look_93 rfl (lv_at hl 2 rfl) ?_
                refine va_get (ci := 5) (v := .ref (q 3)) (C := RX5) (T := TX5) (N := 9) hx hb hts inlX5 hown hE.1 hP 0 rfl rfl 0 (by decide) (hts _ wB16) (fun _ h9 => h9) rfl dX5_look_94 ?_
                refine va_get (ci := 3) (v := .ref (q 8)) (C := RX3) (T := TX3) (N := 9) hx hb hts inlX3 hown hE.1 hP 3 rfl rfl 5 (by decide) (hts _ wB479) (fun _ h9 => h9) rfl dX5_look_97 ?_
                refine lv_iload hx hb dX5_look_100 (lv_at hl 0 rfl) ?_
                refine lv_iconst (v := 1) hx hb dX5_look_102 (by decide) ?_
                refine lv_iadd hx hb dX5_look_103 ?_
                refine lv_iload_n hx hb dX5_look_104 rfl (lv_at hl 4 rfl) ?_
                obtain ⟨r105, h105r, hf⟩ := o_bs hf
                refine k_gov (va_runS (As := [.ref (q 8), .int (((gI u 3) * 4) + 1), .int a2]) (rest := []) ⟨hx, hb, hml, hown, hts⟩ (zX5_set l D cy sa (WX q cy (sR u 5 r90) ++ rest) H.size 8 (q 8) 32 r90 (((gI u 3) * 4) + 1) a2 r105 rfl h105r) (va_cwS 3 hts (gB_S wB124 wB125 wB2 wB126) rfl rfl rfl (by decide +kernel) ⟨Nat.le_of_ble_eq_true rfl, Nat.le_of_ble_eq_true rfl⟩) ⟨kP.blind, k_pre hP hD hS hE hA⟩ rfl rfl hl.1 rfl (lv_room (Nat.le_of_ble_eq_true rfl)) dX5_look_105 ⟨Nat.zero_le _, Nat.zero_le _⟩) hD hS hA (fun H locs hP hD hS => ?_)
                have hQ : ∀ (xb : KS) (x0 : (Nat → Int32)) (xn : (Nat → Int32)), (WX q cy (sR xb 5 x0) ++ rest).set 8 (q 8, .inl (cy 0, 32, .inl xn)) = WX q cy (sR xb 5 xn) ++ rest := fun _ _ _ => rfl
                have hP : va_P D vwCl (WX q cy (sR u 5 r105) ++ rest) H := k_wP (hQ u r90 r105) hP
                have hD : va_D A (WX q cy (sR u 5 r105) ++ rest) := k_wD (hQ u r90 r105) hD
                clear hQ
                refine lv_aload_n hx hb dX5_look_108 rfl (lv_at hl 2 rfl) ?_
                refine va_get (ci := 5) (v := .ref (q 3)) (C := RX5) (T := TX5) (N := 9) hx hb hts inlX5 hown hE.1 hP 0 rfl rfl 0 (by decide) (hts _ wB16) (fun _ h9 => h9) rfl dX5_look_109 ?_
                refine va_get (ci := 3) (v := .ref (q 8)) (C := RX3) (T := TX3) (N := 9) hx hb hts inlX3 hown hE.1 hP 3 rfl rfl 5 (by decide) (hts _ wB479) (fun _ h9 => h9) rfl dX5_look_112 ?_
                refine lv_iload hx hb dX5_look_115 (lv_at hl 0 rfl) ?_
                refine lv_iconst (v := 2) hx hb dX5_look_117 (by decide) ?_
                refine lv_iadd hx hb dX5_look_118 ?_
                refine lv_iload_n hx hb dX5_look_119 rfl (lv_at hl 5 rfl) ?_
                obtain ⟨r120, h120r, hf⟩ := o_bs hf
                refine k_gov (va_runS (As := [.ref (q 8), .int (((gI u 3) * 4) + 2), .int a3]) (rest := []) ⟨hx, hb, hml, hown, hts⟩ (zX5_set l D cy sa (WX q cy (sR u 5 r105) ++ rest) H.size 8 (q 8) 32 r105 (((gI u 3) * 4) + 2) a3 r120 rfl h120r) (va_cwS 3 hts (gB_S wB124 wB125 wB2 wB126) rfl rfl rfl (by decide +kernel) ⟨Nat.le_of_ble_eq_true rfl, Nat.le_of_ble_eq_true rfl⟩) ⟨kP.blind, k_pre hP hD hS hE hA⟩ rfl rfl hl.1 rfl (lv_room (Nat.le_of_ble_eq_true rfl)) dX5_look_120 ⟨Nat.zero_le _, Nat.zero_le _⟩) hD hS hA (fun H locs hP hD hS => ?_)
                have hQ : ∀ (xb : KS) (x0 : (Nat → Int32)) (xn : (Nat → Int32)), (WX q cy (sR xb 5 x0) ++ rest).set 8 (q 8, .inl (cy 0, 32, .inl xn)) = WX q cy (sR xb 5 xn) ++ rest := fun _ _ _ => rfl
                have hP : va_P D vwCl (WX q cy (sR u 5 r120) ++ rest) H := k_wP (hQ u r105 r120) hP
                have hD : va_D A (WX q cy (sR u 5 r120) ++ rest) := k_wD (hQ u r105 r120) hD
                clear hQ
                refine lv_aload_n hx hb dX5_look_123 rfl (lv_at hl 2 rfl) ?_
                refine va_get (ci := 5) (v := .ref (q 3)) (C := RX5) (T := TX5) (N := 9) hx hb hts inlX5 hown hE.1 hP 0 rfl rfl 0 (by decide) (hts _ wB16) (fun _ h9 => h9) rfl dX5_look_124 ?_
                refine va_get (ci := 3) (v := .ref (q 8)) (C := RX3) (T := TX3) (N := 9) hx hb hts inlX3 hown hE.1 hP 3 rfl rfl 5 (by decide) (hts _ wB479) (fun _ h9 => h9) rfl dX5_look_127 ?_
                refine lv_iload hx hb dX5_look_130 (lv_at hl 0 rfl) ?_
                refine lv_iconst (v := 3) hx hb dX5_look_132 (by decide) ?_
                refine lv_iadd hx hb dX5_look_133 ?_
                refine lv_iload hx hb dX5_look_134 (lv_at hl 6 rfl) ?_
                obtain ⟨r136, h136r, hf⟩ := o_bs hf
                refine k_gov (va_runS (As := [.ref (q 8), .int (((gI u 3) * 4) + 3), .int a4]) (rest := []) ⟨hx, hb, hml, hown, hts⟩ (zX5_set l D cy sa (WX q cy (sR u 5 r120) ++ rest) H.size 8 (q 8) 32 r120 (((gI u 3) * 4) + 3) a4 r136 rfl h136r) (va_cwS 3 hts (gB_S wB124 wB125 wB2 wB126) rfl rfl rfl (by decide +kernel) ⟨Nat.le_of_ble_eq_true rfl, Nat.le_of_ble_eq_true rfl⟩) ⟨kP.blind, k_pre hP hD hS hE hA⟩ rfl rfl hl.1 rfl (lv_room (Nat.le_of_ble_eq_true rfl)) dX5_look_136 ⟨Nat.zero_le _, Nat.zero_le _⟩) hD hS hA (fun H locs hP hD hS => ?_)
                have hQ : ∀ (xb : KS) (x0 : (Nat → Int32)) (xn : (Nat → Int32)), (WX q cy (sR xb 5 x0) ++ rest).set 8 (q 8, .inl (cy 0, 32, .inl xn)) = WX q cy (sR xb 5 xn) ++ rest := fun _ _ _ => rfl
                have hP : va_P D vwCl (WX q cy (sR u 5 r136) ++ rest) H := k_wP (hQ u r120 r136) hP
                have hD : va_D A (WX q cy (sR u 5 r136) ++ rest) := k_wD (hQ u r120 r136) hD
                clear hQ
                refine lv_aload_n hx hb dX5_look_139 rfl (lv_at hl 2 rfl) ?_
                refine lv_iconst (v := 1) hx hb dX5_look_140 (by decide) ?_
                refine va_put (ci := 5) (v := .int 1) (ty := .boolean) (C := RX5) (T := TX5) (N := 9) hx hb hts inlX5 tyX5 tyX5_ok nmX5 hown hE.1 hP hD hS 0 rfl rfl 8 (by decide) (hts _ wB37) (fun _ h9 => h9) rfl (by decide +kernel) rfl rfl (Nat.le_of_ble_eq_true rfl) dX5_look_141 (fun H locs hP hD hS => ?_)
                have hQ : ∀ (xb : KS) (x0 : (Nat → Int32)) (xn : Int32), (WX q cy (sR xb 5 x0) ++ rest).set 0 (q 0, .inr (5, [.ref (q 3), .ref (q 1), .ref (q 10), .ref (q 15), .ref (q 19), .ref (q 21), .ref (q 2), .int (gI (sR xb 5 x0) 0), .int (gI (sR xb 5 x0) 1)].set 8 (.int xn))) = WX q cy (sR (sI xb 1 xn) 5 x0) ++ rest := fun _ _ _ => rfl
                have hP : va_P D vwCl (WX q cy (sR (sI u 1 1) 5 r136) ++ rest) H := k_wP (hQ u r136 1) hP
                have hD : va_D A (WX q cy (sR (sI u 1 1) 5 r136) ++ rest) := k_wD (hQ u r136 1) hD
                clear hQ
                refine lv_aload_n hx hb dX5_look_144 rfl (lv_at hl 2 rfl) ?_
                refine va_get (ci := 5) (v := .ref (q 3)) (C := RX5) (T := TX5) (N := 9) hx hb hts inlX5 hown hE.1 hP 0 rfl rfl 0 (by decide) (hts _ wB16) (fun _ h9 => h9) rfl dX5_look_145 ?_
                refine lv_dup hx hb dX5_look_148 rfl ?_
                refine va_get (ci := 3) (v := .int (gI u 3)) (C := RX3) (T := TX3) (N := 9) hx hb hts inlX3 hown hE.1 hP 3 rfl rfl 6 (by decide) (hts _ wB478) (fun _ h9 => h9) rfl dX5_look_149 ?_
                refine lv_dup_x1 hx hb dX5_look_152 rfl rfl ?_
                refine lv_iconst (v := 1) hx hb dX5_look_153 (by decide) ?_
                refine lv_iadd hx hb dX5_look_154 ?_
                refine va_put (ci := 3) (v := .int ((gI u 3) + 1)) (ty := .int) (C := RX3) (T := TX3) (N := 9) hx hb hts inlX3 tyX3 tyX3_ok nmX3 hown hE.1 hP hD hS 3 rfl rfl 6 (by decide) (hts _ wB478) (fun _ h9 => h9) rfl (by decide +kernel) rfl rfl (Nat.le_of_ble_eq_true rfl) dX5_look_155 (fun H locs hP hD hS => ?_)
                have hQ : ∀ (xb : KS) (x0 : Int32) (x1 : (Nat → Int32)) (xn : Int32), (WX q cy (sR (sI xb 1 x0) 5 x1) ++ rest).set 3 (q 3, .inr (3, [.ref (q 4), .int (gI (sR (sI xb 1 x0) 5 x1) 2), .ref (q 5), .ref (q 6), .ref (q 7), .ref (q 8), .int (gI (sR (sI xb 1 x0) 5 x1) 3), .ref (q 9), .int (gI (sR (sI xb 1 x0) 5 x1) 4)].set 6 (.int xn))) = WX q cy (sR (sI (sI xb 1 x0) 3 xn) 5 x1) ++ rest := fun _ _ _ _ => rfl
                have hP : va_P D vwCl (WX q cy (sR (sI (sI u 1 1) 3 ((gI u 3) + 1)) 5 r136) ++ rest) H := k_wP (hQ u 1 r136 ((gI u 3) + 1)) hP
                have hD : va_D A (WX q cy (sR (sI (sI u 1 1) 3 ((gI u 3) + 1)) 5 r136) ++ rest) := k_wD (hQ u 1 r136 ((gI u 3) + 1)) hD
                clear hQ
                obtain rfl := o_ret hf
                exact k_iret hx hb hr hP hD hS (Nat.zero_le _) (Nat.zero_le _) hlocks dX5_look_158
              · have hf := o_in c61 hf
                refine lv_aload_n hx hb dX5_look_64 rfl (lv_at hl 1 rfl) ?_
                obtain ⟨r65, h65r, hf⟩ := o_bs hf
                refine k_goi (va_runV (As := []) (rest := []) ⟨hx, hb, hml, hown, hts⟩ (zX5_full l D cy sa q rest H.size u  r65 h65r) (cwV 0 hts (gB_V wB127 wB128 wB129 wB2 wB130) rfl rfl rfl (by decide +kernel) ⟨Nat.le_of_ble_eq_true rfl, Nat.le_of_ble_eq_true rfl⟩) ⟨kP.blind, k_recv hE hP (ci := 5) (q0 := 0) rfl rfl, k_pre hP hD hS hE hA⟩ rfl rfl hl.1 rfl (lv_room (Nat.le_of_ble_eq_true rfl)) dX5_look_65 ⟨Nat.zero_le _, Nat.zero_le _⟩) hD hS hA (fun H locs hP hD hS => ?_)
                obtain rfl := o_ret hf
                exact k_iret hx hb hr hP hD hS (Nat.zero_le _) (Nat.zero_le _) hlocks dX5_look_68
            · have hf := o_in c44 hf
              refine lv_aload_n hx hb dX5_look_47 rfl (lv_at hl 1 rfl) ?_
              obtain ⟨r48, h48r, hf⟩ := o_bs hf
              refine k_goi (va_runV (As := []) (rest := []) ⟨hx, hb, hml, hown, hts⟩ (zX5_bad l D cy sa q rest H.size u  r48 h48r) (cwV 0 hts (gB_V wB113 wB114 wB115 wB2 wB116) rfl rfl rfl (by decide +kernel) ⟨Nat.le_of_ble_eq_true rfl, Nat.le_of_ble_eq_true rfl⟩) ⟨kP.blind, k_recv hE hP (ci := 5) (q0 := 0) rfl rfl, k_pre hP hD hS hE hA⟩ rfl rfl hl.1 rfl (lv_room (Nat.le_of_ble_eq_true rfl)) dX5_look_48 ⟨Nat.zero_le _, Nat.zero_le _⟩) hD hS hA (fun H locs hP hD hS => ?_)
              obtain rfl := o_ret hf
              exact k_iret hx hb hr hP hD hS (Nat.zero_le _) (Nat.zero_le _) hlocks dX5_look_51
noncomputable def mX5_minutes (u : KS) : Option (Int32 × KS) :=
  (mX5_dayIsFaulty u).bind fun r1 =>
  if r1.1 = 0 then
  (some ((gI r1.2 6), r1.2))
  else
  ((mX5_no r1.2).bind fun r8 =>
  some (r8.1, r8.2))
abbrev rmX5_minutes : Room := { frames := 10, cells := 0, slots := 0, locals := 217 }
set_option maxRecDepth 100000 in
set_option maxHeartbeats 4000000 in
theorem zX5_minutes (l : Launch) (D : va_G) (cy : Nat → ClassId) (sa : Nat → Nat) (q : Nat → Nat) (rest : va_W) (sz : Nat) (u : KS) (res : Int32 × KS) (hf : mX5_minutes u = some res) : kMi l yX5_minutes (wsK yX5_minutes cX5_minutes 1 (some .int)) rmX5_minutes D cy sa (WX q cy u ++ rest) sz [.ref (q 0)] res.1 (WX q cy res.2 ++ rest) 0 0 := by
  refine kM_of (Qc := fun A => kQi D A res.1 (WX q cy res.2 ++ rest)) (cc := cX5_minutes) (maxL := 1) (ret := (some .int)) (by decide) (Nat.le_of_ble_eq_true rfl) ?_
  intro p e s m below meth c A hx hb hml hr hts hown hlocks hin hA hP hD hS hE hsz ls hl
  have hown : s.vm.findClass RX5 = some m.cls := hown
  obtain ⟨H, hH0⟩ : ∃ H, H = s.heap := ⟨_, rfl⟩
  obtain ⟨locs, hlocs0⟩ : ∃ locs : List Loc, locs = [] := ⟨_, rfl⟩
  have hP : va_P D vwCl (WX q cy u ++ rest) H := by rw [hH0]; exact hP
  have hS : va_S A s.heap H locs := by rw [hH0, hlocs0]; exact hS
  have hl : lv_has ls 1 [(0, .ref (q 0))] := hl
  suffices hgoal : W p l e rmX5_minutes s m ([.ref (q 0)] : List Value).toArray below meth c H locs 0 0 (MQ below (kQi D A res.1 (WX q cy res.2 ++ rest)) ([.ref (q 0)] : List Value).toArray s 0 0 A) (F0 m 0 ls []) by rw [hH0, hlocs0] at hgoal; exact hgoal
  clear hH0 hlocs0
  unfold mX5_minutes at hf
  refine lv_aload_n hx hb dX5_minutes_0 rfl (lv_at hl 0 rfl) ?_
  obtain ⟨r1, h1r, hf⟩ := o_bs hf
  refine k_goi (va_runV (As := []) (rest := []) ⟨hx, hb, hml, hown, hts⟩ (zX5_dayIsFaulty l D cy sa q rest H.size u  r1 h1r) (cwV 0 hts (gB_V wB316 wB317 wB318 wB2 wB319) rfl rfl rfl (by decide +kernel) ⟨Nat.le_of_ble_eq_true rfl, Nat.le_of_ble_eq_true rfl⟩) ⟨kP.blind, k_recv hE hP (ci := 5) (q0 := 0) rfl rfl, k_pre hP hD hS hE hA⟩ rfl rfl hl.1 rfl (lv_room (Nat.le_of_ble_eq_true rfl)) dX5_minutes_1 ⟨Nat.zero_le _, Nat.zero_le _⟩) hD hS hA (fun H locs hP hD hS => ?_)
  refine lv_if_eq (tgt := 12) hx hb dX5_minutes_4 (by decide) (fun c4 => ?_) (fun c4 => ?_)
  · have hf := o_ip c4 hf
    refine lv_aload_n hx hb dX5_minutes_12 rfl (lv_at hl 0 rfl) ?_
    refine va_get (ci := 5) (v := .ref (q 10)) (C := RX5) (T := TX5) (N := 9) hx hb hts inlX5 hown hE.1 hP 0 rfl rfl 2 (by decide) (hts _ wB21) (fun _ h9 => h9) rfl dX5_minutes_13 ?_
    refine va_get (ci := 0) (v := .int (gI r1.2 6)) (C := RX0) (T := TX0) (N := 9) hx hb hts inlX0 hown hE.1 hP 10 rfl rfl 1 (by decide) (hts _ wB315) (fun _ h9 => h9) rfl dX5_minutes_16 ?_
    obtain rfl := o_ret hf
    exact k_iret hx hb hr hP hD hS (Nat.zero_le _) (Nat.zero_le _) hlocks dX5_minutes_19
  · have hf := o_in c4 hf
    refine lv_aload_n hx hb dX5_minutes_7 rfl (lv_at hl 0 rfl) ?_
    obtain ⟨r8, h8r, hf⟩ := o_bs hf
    refine k_goi (va_runV (As := []) (rest := []) ⟨hx, hb, hml, hown, hts⟩ (zX5_no l D cy sa q rest H.size r1.2  r8 h8r) (cwV 0 hts (gB_V wB320 wB321 wB322 wB2 wB323) rfl rfl rfl (by decide +kernel) ⟨Nat.le_of_ble_eq_true rfl, Nat.le_of_ble_eq_true rfl⟩) ⟨kP.blind, k_recv hE hP (ci := 5) (q0 := 0) rfl rfl, k_pre hP hD hS hE hA⟩ rfl rfl hl.1 rfl (lv_room (Nat.le_of_ble_eq_true rfl)) dX5_minutes_8 ⟨Nat.zero_le _, Nat.zero_le _⟩) hD hS hA (fun H locs hP hD hS => ?_)
    obtain rfl := o_ret hf
    exact k_iret hx hb hr hP hD hS (Nat.zero_le _) (Nat.zero_le _) hlocks dX5_minutes_11
noncomputable def mX5_next_s63 (c1 : Int32) (c5 : Int32) (s63 : Int32 × Int64 × Int32 × KS) : Option (((Int32 × Int64 × KS)) ⊕ (Int32 × Int64 × Int32 × KS)) :=
  if 4 < s63.2.2.1 then
  (some (.inl (s63.1, s63.2.1, s63.2.2.2)))
  else
  ((mX2_addUp s63.2.2.2 s63.2.2.1).bind fun r75 =>
  (mX5_at 4 (gR r75 2) 1).bind fun r90 =>
  (mX2_greatestLevel r75 r90).bind fun r93 =>
  if 0 ≤ (lg_cmp r93 s63.2.1) then
  (some (.inr (s63.1, s63.2.1, (s63.2.2.1 + 1), r75)))
  else
  (some (.inr (((10 * c5) + s63.2.2.1), r93, (s63.2.2.1 + 1), r75))))
noncomputable def mX5_next_s37 (c1 : Int32) (s37 : Int32 × Int64 × Int32 × KS) : Option (((Int32 × KS)) ⊕ (Int32 × Int64 × Int32 × KS)) :=
  if 4 ≤ s37.2.2.1 then
  (some (.inl (s37.1, s37.2.2.2)))
  else
  ((mX0_bring s37.2.2.2 c1 s37.2.2.1).bind fun r57 =>
  (lpF (mX5_next_s63 c1 s37.2.2.1) (s37.1, s37.2.1, 0, r57)).bind fun e63 =>
  some (.inr (e63.1, e63.2.1, (s37.2.2.1 + 1), e63.2.2)))
noncomputable def mX5_next (u : KS) (a1 : Int32) : Option (Int32 × KS) :=
  (mX5_noGuesses u).bind fun r1 =>
  if r1.1 = 0 then
  ((mX0_has r1.2 a1).bind fun r17 =>
  if r17 = 0 then
  ((mX5_bad r1.2).bind fun r24 =>
  some (r24.1, r24.2))
  else
  ((lpF (mX5_next_s37 a1) (0, 9223372036854775807, 0, r1.2)).bind fun e37 =>
  some (e37.1, e37.2)))
  else
  ((mX5_no r1.2).bind fun r8 =>
  some (r8.1, r8.2))
abbrev rmX5_next : Room := { frames := 10, cells := 0, slots := 0, locals := 217 }
set_option maxRecDepth 100000 in
set_option maxHeartbeats 4000000 in
theorem zX5_next (l : Launch) (D : va_G) (cy : Nat → ClassId) (sa : Nat → Nat) (q : Nat → Nat) (rest : va_W) (sz : Nat) (u : KS) (a1 : Int32) (res : Int32 × KS) (hf : mX5_next u a1 = some res) : kMi l yX5_next (wsK yX5_next cX5_next 9 (some .int)) rmX5_next D cy sa (WX q cy u ++ rest) sz [.ref (q 0), .int a1] res.1 (WX q cy res.2 ++ rest) 0 0 := by
  refine kM_of (Qc := fun A => kQi D A res.1 (WX q cy res.2 ++ rest)) (cc := cX5_next) (maxL := 9) (ret := (some .int)) (by decide) (Nat.le_of_ble_eq_true rfl) ?_
  intro p e s m below meth c A hx hb hml hr hts hown hlocks hin hA hP hD hS hE hsz ls hl
  have hown : s.vm.findClass RX5 = some m.cls := hown
  obtain ⟨H, hH0⟩ : ∃ H, H = s.heap := ⟨_, rfl⟩
  obtain ⟨locs, hlocs0⟩ : ∃ locs : List Loc, locs = [] := ⟨_, rfl⟩
  have hP : va_P D vwCl (WX q cy u ++ rest) H := by rw [hH0]; exact hP
  have hS : va_S A s.heap H locs := by rw [hH0, hlocs0]; exact hS
  have hl : lv_has ls 9 [(0, .ref (q 0)), (1, .int a1)] := hl
  suffices hgoal : W p l e rmX5_next s m ([.ref (q 0), .int a1] : List Value).toArray below meth c H locs 0 0 (MQ below (kQi D A res.1 (WX q cy res.2 ++ rest)) ([.ref (q 0), .int a1] : List Value).toArray s 0 0 A) (F0 m 0 ls []) by rw [hH0, hlocs0] at hgoal; exact hgoal
  clear hH0 hlocs0
  unfold mX5_next at hf
  refine lv_aload_n hx hb dX5_next_0 rfl (lv_at hl 0 rfl) ?_
  obtain ⟨r1, h1r, hf⟩ := o_bs hf
  refine k_goi (va_runV (As := []) (rest := []) ⟨hx, hb, hml, hown, hts⟩ (zX5_noGuesses l D cy sa q rest H.size u  r1 h1r) (cwV 0 hts (gB_V wB499 wB500 wB501 wB2 wB502) rfl rfl rfl (by decide +kernel) ⟨Nat.le_of_ble_eq_true rfl, Nat.le_of_ble_eq_true rfl⟩) ⟨kP.blind, k_recv hE hP (ci := 5) (q0 := 0) rfl rfl, k_pre hP hD hS hE hA⟩ rfl rfl hl.1 rfl (lv_room (Nat.le_of_ble_eq_true rfl)) dX5_next_1 ⟨Nat.zero_le _, Nat.zero_le _⟩) hD hS hA (fun H locs hP hD hS => ?_)
  refine lv_if_eq (tgt := 12) hx hb dX5_next_4 (by decide) (fun c4 => ?_) (fun c4 => ?_)
  · have hf := o_ip c4 hf
    refine lv_aload_n hx hb dX5_next_12 rfl (lv_at hl 0 rfl) ?_
    refine va_get (ci := 5) (v := .ref (q 10)) (C := RX5) (T := TX5) (N := 9) hx hb hts inlX5 hown hE.1 hP 0 rfl rfl 2 (by decide) (hts _ wB21) (fun _ h9 => h9) rfl dX5_next_13 ?_
    refine lv_iload_n hx hb dX5_next_16 rfl (lv_at hl 1 rfl) ?_
    obtain ⟨r17, h17r, hf⟩ := o_bs hf
    refine k_goi (va_runV (As := [.int a1]) (rest := []) ⟨hx, hb, hml, hown, hts⟩ (zX0_has l D cy sa q rest H.size r1.2 a1 r17 h17r) (cwV 1 hts (gB_V wB405 wB406 wB407 wB20 wB408) rfl rfl rfl (by decide +kernel) ⟨Nat.le_of_ble_eq_true rfl, Nat.le_of_ble_eq_true rfl⟩) ⟨kP.blind, k_recv hE hP (ci := 0) (q0 := 10) rfl rfl, k_pre hP hD hS hE hA⟩ rfl rfl hl.1 rfl (lv_room (Nat.le_of_ble_eq_true rfl)) dX5_next_17 ⟨Nat.zero_le _, Nat.zero_le _⟩) hD hS hA (fun H locs hP hD hS => ?_)
    refine lv_if_ne (tgt := 28) hx hb dX5_next_20 (by decide) (fun c20 => ?_) (fun c20 => ?_)
    · have hf := o_in c20 hf
      refine lv_iconst (v := 0) hx hb dX5_next_28 (by decide) ?_
      refine lv_istore_n (lv' := [(2, .int 0), (0, .ref (q 0)), (1, .int a1)]) hx hb dX5_next_29 rfl hl (by decide) rfl (fun ls hl => ?_)
      refine lv_ldc2 (v := 9223372036854775807) hx hb hown (hts _ wB654) dX5_next_30 ?_
      refine lv_lstore_n (lv' := [(3, .long 9223372036854775807), (2, .int 0), (0, .ref (q 0)), (1, .int a1)]) hx hb dX5_next_33 rfl hl (by decide) rfl (fun ls hl => ?_)
      refine lv_iconst (v := 0) hx hb dX5_next_34 (by decide) ?_
      refine lv_istore (lv' := [(5, .int 0), (3, .long 9223372036854775807), (2, .int 0), (0, .ref (q 0)), (1, .int a1)]) hx hb dX5_next_35 hl (by decide) rfl (fun ls hl => ?_)
      have L37 : ∀ (n37v : Nat) (s37 : Int32 × Int64 × Int32 × KS) (e37 : (Int32 × KS)), lpO (mX5_next_s37 a1) n37v s37 = some e37 → ∀ (H : Heap) (locs : List Loc) (ls : Array Slot), va_P D vwCl (WX q cy s37.2.2.2 ++ rest) H → va_D A (WX q cy s37.2.2.2 ++ rest) → va_S A s.heap H locs → lv_has ls 9 [(0, .ref (q 0)), (1, .int a1), (2, .int s37.1), (3, .long s37.2.1), (5, .int s37.2.2.1)] → (∀ (H : Heap) (locs : List Loc) (ls : Array Slot), va_P D vwCl (WX q cy e37.2 ++ rest) H → va_D A (WX q cy e37.2 ++ rest) → va_S A s.heap H locs → lv_has ls 9 [(2, .int e37.1)] → W p l e rmX5_next s m ([.ref (q 0), .int a1] : List Value).toArray below meth c H locs 0 0 (MQ below (kQi D A res.1 (WX q cy res.2 ++ rest)) ([.ref (q 0), .int a1] : List Value).toArray s 0 0 A) (F0 m 129 ls [])) → W p l e rmX5_next s m ([.ref (q 0), .int a1] : List Value).toArray below meth c H locs 0 0 (MQ below (kQi D A res.1 (WX q cy res.2 ++ rest)) ([.ref (q 0), .int a1] : List Value).toArray s 0 0 A) (F0 m 37 ls []) := by
        intro n37v
        induction n37v with
        | zero => intro s37 e37 h; exact (lpO_z h).elim
        | succ n37v ih37 =>
          intro s37 e37 h37z H locs ls hP hD hS hl K37_0
          obtain ⟨x37, hf, h37z⟩ := lpO_s h37z
          unfold mX5_next_s37 at hf
          refine lv_iload hx hb dX5_next_37 (lv_at hl 4 rfl) ?_
          refine lv_iconst (v := 4) hx hb dX5_next_39 (by decide) ?_
          refine lv_icmp_ge (tgt := 129) hx hb dX5_next_40 (by decide) (fun c40 => ?_) (fun c40 => ?_)
          · have hf := o_ip c40 hf
            obtain rfl := o_ret hf
            obtain rfl := lpK_l h37z
            exact K37_0 _ _ _ hP hD hS (lv_sub hl [2] rfl)
          · have hf := o_in c40 hf
            refine lv_aload_n hx hb dX5_next_43 rfl (lv_at hl 0 rfl) ?_
            refine va_get (ci := 5) (v := .ref (q 10)) (C := RX5) (T := TX5) (N := 9) hx hb hts inlX5 hown hE.1 hP 0 rfl rfl 2 (by decide) (hts _ wB21) (fun _ h9 => h9) rfl dX5_next_44 ?_
            refine lv_iload_n hx hb dX5_next_47 rfl (lv_at hl 1 rfl) ?_
            refine lv_iload hx hb dX5_next_48 (lv_at hl 4 rfl) ?_
            refine lv_aload_n hx hb dX5_next_50 rfl (lv_at hl 0 rfl) ?_
            refine va_get (ci := 5) (v := .ref (q 15)) (C := RX5) (T := TX5) (N := 9) hx hb hts inlX5 hown hE.1 hP 0 rfl rfl 3 (by decide) (hts _ wB25) (fun _ h9 => h9) rfl dX5_next_51 ?_
            refine va_get (ci := 2) (v := .ref (q 16)) (C := RX2) (T := TX2) (N := 4) hx hb hts inlX2 hown hE.1 hP 15 rfl rfl 1 (by decide) (hts _ wB507) (fun _ h9 => h9) rfl dX5_next_54 ?_
            obtain ⟨r57, h57r, hf⟩ := o_bs hf
            refine k_gov (va_runV (As := [.int a1, .int s37.2.2.1, .ref (q 16)]) (rest := []) ⟨hx, hb, hml, hown, hts⟩ (zX0_bring l D cy sa q rest H.size s37.2.2.2 a1 s37.2.2.1 r57 h57r) (cwV 3 hts (gB_V wB514 wB515 wB516 wB20 wB517) rfl rfl rfl (by decide +kernel) ⟨Nat.le_of_ble_eq_true rfl, Nat.le_of_ble_eq_true rfl⟩) ⟨kP.blind, k_recv hE hP (ci := 0) (q0 := 10) rfl rfl, k_pre hP hD hS hE hA⟩ rfl rfl hl.1 rfl (lv_room (Nat.le_of_ble_eq_true rfl)) dX5_next_57 ⟨Nat.zero_le _, Nat.zero_le _⟩) hD hS hA (fun H locs hP hD hS => ?_)
            refine lv_iconst (v := 0) hx hb dX5_next_60 (by decide) ?_
            refine lv_istore (lv' := [(6, .int 0), (0, .ref (q 0)), (1, .int a1), (2, .int s37.1), (3, .long s37.2.1), (5, .int s37.2.2.1)]) hx hb dX5_next_61 hl (by decide) rfl (fun ls hl => ?_)
            have L63 : ∀ (n63v : Nat) (s63 : Int32 × Int64 × Int32 × KS) (e63 : (Int32 × Int64 × KS)), lpO (mX5_next_s63 a1 s37.2.2.1) n63v s63 = some e63 → ∀ (H : Heap) (locs : List Loc) (ls : Array Slot), va_P D vwCl (WX q cy s63.2.2.2 ++ rest) H → va_D A (WX q cy s63.2.2.2 ++ rest) → va_S A s.heap H locs → lv_has ls 9 [(0, .ref (q 0)), (1, .int a1), (2, .int s63.1), (3, .long s63.2.1), (5, .int s37.2.2.1), (6, .int s63.2.2.1)] → (∀ (H : Heap) (locs : List Loc) (ls : Array Slot), va_P D vwCl (WX q cy e63.2.2 ++ rest) H → va_D A (WX q cy e63.2.2 ++ rest) → va_S A s.heap H locs → lv_has ls 9 [(0, .ref (q 0)), (1, .int a1), (2, .int e63.1), (3, .long e63.2.1), (5, .int s37.2.2.1)] → W p l e rmX5_next s m ([.ref (q 0), .int a1] : List Value).toArray below meth c H locs 0 0 (MQ below (kQi D A res.1 (WX q cy res.2 ++ rest)) ([.ref (q 0), .int a1] : List Value).toArray s 0 0 A) (F0 m 123 ls [])) → W p l e rmX5_next s m ([.ref (q 0), .int a1] : List Value).toArray below meth c H locs 0 0 (MQ below (kQi D A res.1 (WX q cy res.2 ++ rest)) ([.ref (q 0), .int a1] : List Value).toArray s 0 0 A) (F0 m 63 ls []) := by
              intro n63v
              induction n63v with
              | zero => intro s63 e63 h; exact (lpO_z h).elim
              | succ n63v ih63 =>
                intro s63 e63 h63z H locs ls hP hD hS hl K63_0
                obtain ⟨x63, hf, h63z⟩ := lpO_s h63z
                unfold mX5_next_s63 at hf
                refine lv_iload hx hb dX5_next_63 (lv_at hl 5 rfl) ?_
                refine lv_iconst (v := 4) hx hb dX5_next_65 (by decide) ?_
                refine lv_icmp_gt (tgt := 123) hx hb dX5_next_66 (by decide) (fun c66 => ?_) (fun c66 => ?_)
                · have hf := o_ip c66 hf
                  obtain rfl := o_ret hf
                  obtain rfl := lpK_l h63z
                  exact K63_0 _ _ _ hP hD hS (lv_sub hl [0, 1, 2, 3, 4] rfl)
                · have hf := o_in c66 hf
                  refine lv_aload_n hx hb dX5_next_69 rfl (lv_at hl 0 rfl) ?_
                  refine va_get (ci := 5) (v := .ref (q 15)) (C := RX5) (T := TX5) (N := 9) hx hb hts inlX5 hown hE.1 hP 0 rfl rfl 3 (by decide) (hts _ wB25) (fun _ h9 => h9) rfl dX5_next_70 ?_
                  refine lv_iload hx hb dX5_next_73 (lv_at hl 5 rfl) ?_
                  obtain ⟨r75, h75r, hf⟩ := o_bs hf
                  refine k_gov (va_runV (As := [.int s63.2.2.1]) (rest := []) ⟨hx, hb, hml, hown, hts⟩ (zX2_addUp l D cy sa q rest H.size s63.2.2.2 s63.2.2.1 r75 h75r) (cwV 1 hts (gB_V wB519 wB520 wB521 wB24 wB522) rfl rfl rfl (by decide +kernel) ⟨Nat.le_of_ble_eq_true rfl, Nat.le_of_ble_eq_true rfl⟩) ⟨kP.blind, k_recv hE hP (ci := 2) (q0 := 15) rfl rfl, k_pre hP hD hS hE hA⟩ rfl rfl hl.1 rfl (lv_room (Nat.le_of_ble_eq_true rfl)) dX5_next_75 ⟨Nat.zero_le _, Nat.zero_le _⟩) hD hS hA (fun H locs hP hD hS => ?_)
                  refine lv_aload_n hx hb dX5_next_78 rfl (lv_at hl 0 rfl) ?_
                  refine va_get (ci := 5) (v := .ref (q 15)) (C := RX5) (T := TX5) (N := 9) hx hb hts inlX5 hown hE.1 hP 0 rfl rfl 3 (by decide) (hts _ wB25) (fun _ h9 => h9) rfl dX5_next_79 ?_
                  refine lv_aload_n hx hb dX5_next_82 rfl (lv_at hl 0 rfl) ?_
                  refine va_get (ci := 5) (v := .ref (q 3)) (C := RX5) (T := TX5) (N := 9) hx hb hts inlX5 hown hE.1 hP 0 rfl rfl 0 (by decide) (hts _ wB16) (fun _ h9 => h9) rfl dX5_next_83 ?_
                  refine va_get (ci := 3) (v := .ref (q 5)) (C := RX3) (T := TX3) (N := 9) hx hb hts inlX3 hown hE.1 hP 3 rfl rfl 2 (by decide) (hts _ wB177) (fun _ h9 => h9) rfl dX5_next_86 ?_
                  refine lv_iconst (v := 1) hx hb dX5_next_89 (by decide) ?_
                  obtain ⟨r90, h90r, hf⟩ := o_bs hf
                  refine k_goi (va_runS (As := [.ref (q 5), .int 1]) (rest := [.ref (q 15)]) ⟨hx, hb, hml, hown, hts⟩ (zX5_at l D cy sa (WX q cy r75 ++ rest) H.size 5 (q 5) 4 (gR r75 2) 1 r90 rfl h90r) (va_cwS 2 hts (gB_S wB121 wB122 wB2 wB123) rfl rfl rfl (by decide +kernel) ⟨Nat.le_of_ble_eq_true rfl, Nat.le_of_ble_eq_true rfl⟩) ⟨kP.blind, k_pre hP hD hS hE hA⟩ rfl rfl hl.1 rfl (lv_room (Nat.le_of_ble_eq_true rfl)) dX5_next_90 ⟨Nat.zero_le _, Nat.zero_le _⟩) hD hS hA (fun H locs hP hD hS => ?_)
                  obtain ⟨r93, h93r, hf⟩ := o_bs hf
                  refine k_gol (va_runV (As := [.int r90]) (rest := []) ⟨hx, hb, hml, hown, hts⟩ (zX2_greatestLevel l D cy sa q rest H.size r75 r90 r93 h93r) (cwV 1 hts (gB_V wB655 wB656 wB657 wB24 wB658) rfl rfl rfl (by decide +kernel) ⟨Nat.le_of_ble_eq_true rfl, Nat.le_of_ble_eq_true rfl⟩) ⟨kP.blind, k_recv hE hP (ci := 2) (q0 := 15) rfl rfl, k_pre hP hD hS hE hA⟩ rfl rfl hl.1 rfl (lv_room (Nat.le_of_ble_eq_true rfl)) dX5_next_93 ⟨Nat.zero_le _, Nat.zero_le _⟩) hD hS hA (fun H locs hP hD hS => ?_)
                  refine lv_lstore (lv' := [(7, .long r93), (0, .ref (q 0)), (1, .int a1), (2, .int s63.1), (3, .long s63.2.1), (5, .int s37.2.2.1), (6, .int s63.2.2.1)]) hx hb dX5_next_96 hl (by decide) rfl (fun ls hl => ?_)
                  refine lv_lload hx hb dX5_next_98 (lv_at hl 0 rfl) ?_
                  refine lv_lload_n hx hb dX5_next_100 rfl (lv_at hl 4 rfl) ?_
                  refine W.lcmp hx hb dX5_next_101 ?_
                  refine lv_if_ge (tgt := 117) hx hb dX5_next_102 (by decide) (fun c102 => ?_) (fun c102 => ?_)
                  · have hf := o_ip c102 hf
                    refine lv_iinc (v := (s63.2.2.1 + 1)) (lv' := [(6, .int (s63.2.2.1 + 1)), (7, .long r93), (0, .ref (q 0)), (1, .int a1), (2, .int s63.1), (3, .long s63.2.1), (5, .int s37.2.2.1)]) hx hb dX5_next_117 hl (k := 6) rfl (by rfl) (by decide) rfl (fun ls hl => ?_)
                    refine lv_goto (tgt := 63) hx hb dX5_next_120 (by decide) ?_
                    obtain rfl := o_ret hf
                    exact ih63 _ _ (lpK_r h63z) _ _ _ hP hD hS (lv_sub hl [2, 3, 4, 5, 6, 0] rfl) K63_0
                  · have hf := o_in c102 hf
                    refine lv_lload hx hb dX5_next_105 (lv_at hl 0 rfl) ?_
                    refine lv_lstore_n (lv' := [(3, .long r93), (7, .long r93), (0, .ref (q 0)), (1, .int a1), (2, .int s63.1), (5, .int s37.2.2.1), (6, .int s63.2.2.1)]) hx hb dX5_next_107 rfl hl (by decide) rfl (fun ls hl => ?_)
                    refine lv_bipush (v := 10) hx hb dX5_next_108 (by decide) ?_
                    refine lv_iload hx hb dX5_next_110 (lv_at hl 5 rfl) ?_
                    refine lv_imul hx hb dX5_next_112 ?_
                    refine lv_iload hx hb dX5_next_113 (lv_at hl 6 rfl) ?_
                    refine lv_iadd hx hb dX5_next_115 ?_
                    refine lv_istore_n (lv' := [(2, .int ((10 * s37.2.2.1) + s63.2.2.1)), (3, .long r93), (7, .long r93), (0, .ref (q 0)), (1, .int a1), (5, .int s37.2.2.1), (6, .int s63.2.2.1)]) hx hb dX5_next_116 rfl hl (by decide) rfl (fun ls hl => ?_)
                    refine lv_iinc (v := (s63.2.2.1 + 1)) (lv' := [(6, .int (s63.2.2.1 + 1)), (2, .int ((10 * s37.2.2.1) + s63.2.2.1)), (3, .long r93), (7, .long r93), (0, .ref (q 0)), (1, .int a1), (5, .int s37.2.2.1)]) hx hb dX5_next_117 hl (k := 6) rfl (by rfl) (by decide) rfl (fun ls hl => ?_)
                    refine lv_goto (tgt := 63) hx hb dX5_next_120 (by decide) ?_
                    obtain rfl := o_ret hf
                    exact ih63 _ _ (lpK_r h63z) _ _ _ hP hD hS (lv_sub hl [4, 5, 1, 2, 6, 0] rfl) K63_0
            obtain ⟨e63, h63q, hf⟩ := o_bs hf
            obtain ⟨n63v, h63q⟩ := lpF_ex h63q
            refine L63 n63v _ e63 h63q _ _ _ hP hD hS (lv_sub hl [1, 2, 3, 4, 5, 0] rfl) ?_
            intro H locs ls hP hD hS hl
            refine lv_iinc (v := (s37.2.2.1 + 1)) (lv' := [(5, .int (s37.2.2.1 + 1)), (0, .ref (q 0)), (1, .int a1), (2, .int e63.1), (3, .long e63.2.1)]) hx hb dX5_next_123 hl (k := 4) rfl (by rfl) (by decide) rfl (fun ls hl => ?_)
            refine lv_goto (tgt := 37) hx hb dX5_next_126 (by decide) ?_
            obtain rfl := o_ret hf
            exact ih37 _ _ (lpK_r h37z) _ _ _ hP hD hS (lv_sub hl [1, 2, 3, 4, 0] rfl) K37_0
      obtain ⟨e37, h37q, hf⟩ := o_bs hf
      obtain ⟨n37v, h37q⟩ := lpF_ex h37q
      refine L37 n37v _ e37 h37q _ _ _ hP hD hS (lv_sub hl [3, 4, 2, 1, 0] rfl) ?_
      intro H locs ls hP hD hS hl
      refine lv_iload_n hx hb dX5_next_129 rfl (lv_at hl 0 rfl) ?_
      obtain rfl := o_ret hf
      exact k_iret hx hb hr hP hD hS (Nat.zero_le _) (Nat.zero_le _) hlocks dX5_next_130
    · have hf := o_ip c20 hf
      refine lv_aload_n hx hb dX5_next_23 rfl (lv_at hl 0 rfl) ?_
      obtain ⟨r24, h24r, hf⟩ := o_bs hf
      refine k_goi (va_runV (As := []) (rest := []) ⟨hx, hb, hml, hown, hts⟩ (zX5_bad l D cy sa q rest H.size r1.2  r24 h24r) (cwV 0 hts (gB_V wB113 wB114 wB115 wB2 wB116) rfl rfl rfl (by decide +kernel) ⟨Nat.le_of_ble_eq_true rfl, Nat.le_of_ble_eq_true rfl⟩) ⟨kP.blind, k_recv hE hP (ci := 5) (q0 := 0) rfl rfl, k_pre hP hD hS hE hA⟩ rfl rfl hl.1 rfl (lv_room (Nat.le_of_ble_eq_true rfl)) dX5_next_24 ⟨Nat.zero_le _, Nat.zero_le _⟩) hD hS hA (fun H locs hP hD hS => ?_)
      obtain rfl := o_ret hf
      exact k_iret hx hb hr hP hD hS (Nat.zero_le _) (Nat.zero_le _) hlocks dX5_next_27
  · have hf := o_in c4 hf
    refine lv_aload_n hx hb dX5_next_7 rfl (lv_at hl 0 rfl) ?_
    obtain ⟨r8, h8r, hf⟩ := o_bs hf
    refine k_goi (va_runV (As := []) (rest := []) ⟨hx, hb, hml, hown, hts⟩ (zX5_no l D cy sa q rest H.size r1.2  r8 h8r) (cwV 0 hts (gB_V wB320 wB321 wB322 wB2 wB323) rfl rfl rfl (by decide +kernel) ⟨Nat.le_of_ble_eq_true rfl, Nat.le_of_ble_eq_true rfl⟩) ⟨kP.blind, k_recv hE hP (ci := 5) (q0 := 0) rfl rfl, k_pre hP hD hS hE hA⟩ rfl rfl hl.1 rfl (lv_room (Nat.le_of_ble_eq_true rfl)) dX5_next_8 ⟨Nat.zero_le _, Nat.zero_le _⟩) hD hS hA (fun H locs hP hD hS => ?_)
    obtain rfl := o_ret hf
    exact k_iret hx hb hr hP hD hS (Nat.zero_le _) (Nat.zero_le _) hlocks dX5_next_11
noncomputable def mX5_odds (u : KS) (a1 : Int32) (a2 : Int32) : Option (Int32 × KS) :=
  if a1 < 0 then
  ((mX5_bad u).bind fun r20 =>
  some (r20.1, r20.2))
  else
  (if 4 ≤ a1 then
  ((mX5_bad u).bind fun r20 =>
  some (r20.1, r20.2))
  else
  (if a2 < 0 then
  ((mX5_bad u).bind fun r20 =>
  some (r20.1, r20.2))
  else
  (if a2 ≤ 7 then
  ((mX5_noGuesses u).bind fun r25 =>
  if r25.1 = 0 then
  ((mX2_having r25.2 a1 a2).bind fun r46 =>
  (mX1_setShare r25.2 r46 (gL r25.2 0)).bind fun r56 =>
  some (1, r56))
  else
  ((mX5_no r25.2).bind fun r32 =>
  some (r32.1, r32.2)))
  else
  ((mX5_bad u).bind fun r20 =>
  some (r20.1, r20.2)))))
abbrev rmX5_odds : Room := { frames := 10, cells := 0, slots := 0, locals := 217 }
set_option maxRecDepth 100000 in
set_option maxHeartbeats 4000000 in
theorem zX5_odds (l : Launch) (D : va_G) (cy : Nat → ClassId) (sa : Nat → Nat) (q : Nat → Nat) (rest : va_W) (sz : Nat) (u : KS) (a1 : Int32) (a2 : Int32) (res : Int32 × KS) (hf : mX5_odds u a1 a2 = some res) : kMi l yX5_odds (wsK yX5_odds cX5_odds 3 (some .int)) rmX5_odds D cy sa (WX q cy u ++ rest) sz [.ref (q 0), .int a1, .int a2] res.1 (WX q cy res.2 ++ rest) 0 0 := by
  refine kM_of (Qc := fun A => kQi D A res.1 (WX q cy res.2 ++ rest)) (cc := cX5_odds) (maxL := 3) (ret := (some .int)) (by decide) (Nat.le_of_ble_eq_true rfl) ?_
  intro p e s m below meth c A hx hb hml hr hts hown hlocks hin hA hP hD hS hE hsz ls hl
  have hown : s.vm.findClass RX5 = some m.cls := hown
  obtain ⟨H, hH0⟩ : ∃ H, H = s.heap := ⟨_, rfl⟩
  obtain ⟨locs, hlocs0⟩ : ∃ locs : List Loc, locs = [] := ⟨_, rfl⟩
  have hP : va_P D vwCl (WX q cy u ++ rest) H := by rw [hH0]; exact hP
  have hS : va_S A s.heap H locs := by rw [hH0, hlocs0]; exact hS
  have hl : lv_has ls 3 [(0, .ref (q 0)), (1, .int a1), (2, .int a2)] := hl
  suffices hgoal : W p l e rmX5_odds s m ([.ref (q 0), .int a1, .int a2] : List Value).toArray below meth c H locs 0 0 (MQ below (kQi D A res.1 (WX q cy res.2 ++ rest)) ([.ref (q 0), .int a1, .int a2] : List Value).toArray s 0 0 A) (F0 m 0 ls []) by rw [hH0, hlocs0] at hgoal; exact hgoal
  clear hH0 hlocs0
  unfold mX5_odds at hf
  refine lv_iload_n hx hb dX5_odds_0 rfl (lv_at hl 1 rfl) ?_
  refine lv_if_lt (tgt := 19) hx hb dX5_odds_1 (by decide) (fun c1 => ?_) (fun c1 => ?_)
  · have hf := o_ip c1 hf
    refine lv_aload_n hx hb dX5_odds_19 rfl (lv_at hl 0 rfl) ?_
    obtain ⟨r20, h20r, hf⟩ := o_bs hf
    refine k_goi (va_runV (As := []) (rest := []) ⟨hx, hb, hml, hown, hts⟩ (zX5_bad l D cy sa q rest H.size u  r20 h20r) (cwV 0 hts (gB_V wB113 wB114 wB115 wB2 wB116) rfl rfl rfl (by decide +kernel) ⟨Nat.le_of_ble_eq_true rfl, Nat.le_of_ble_eq_true rfl⟩) ⟨kP.blind, k_recv hE hP (ci := 5) (q0 := 0) rfl rfl, k_pre hP hD hS hE hA⟩ rfl rfl hl.1 rfl (lv_room (Nat.le_of_ble_eq_true rfl)) dX5_odds_20 ⟨Nat.zero_le _, Nat.zero_le _⟩) hD hS hA (fun H locs hP hD hS => ?_)
    obtain rfl := o_ret hf
    exact k_iret hx hb hr hP hD hS (Nat.zero_le _) (Nat.zero_le _) hlocks dX5_odds_23
  · have hf := o_in c1 hf
    refine lv_iload_n hx hb dX5_odds_4 rfl (lv_at hl 1 rfl) ?_
    refine lv_iconst (v := 4) hx hb dX5_odds_5 (by decide) ?_
    refine lv_icmp_ge (tgt := 19) hx hb dX5_odds_6 (by decide) (fun c6 => ?_) (fun c6 => ?_)
    · have hf := o_ip c6 hf
      refine lv_aload_n hx hb dX5_odds_19 rfl (lv_at hl 0 rfl) ?_
      obtain ⟨r20, h20r, hf⟩ := o_bs hf
      refine k_goi (va_runV (As := []) (rest := []) ⟨hx, hb, hml, hown, hts⟩ (zX5_bad l D cy sa q rest H.size u  r20 h20r) (cwV 0 hts (gB_V wB113 wB114 wB115 wB2 wB116) rfl rfl rfl (by decide +kernel) ⟨Nat.le_of_ble_eq_true rfl, Nat.le_of_ble_eq_true rfl⟩) ⟨kP.blind, k_recv hE hP (ci := 5) (q0 := 0) rfl rfl, k_pre hP hD hS hE hA⟩ rfl rfl hl.1 rfl (lv_room (Nat.le_of_ble_eq_true rfl)) dX5_odds_20 ⟨Nat.zero_le _, Nat.zero_le _⟩) hD hS hA (fun H locs hP hD hS => ?_)
      obtain rfl := o_ret hf
      exact k_iret hx hb hr hP hD hS (Nat.zero_le _) (Nat.zero_le _) hlocks dX5_odds_23
    · have hf := o_in c6 hf
      refine lv_iload_n hx hb dX5_odds_9 rfl (lv_at hl 2 rfl) ?_
      refine lv_if_lt (tgt := 19) hx hb dX5_odds_10 (by decide) (fun c10 => ?_) (fun c10 => ?_)
      · have hf := o_ip c10 hf
        refine lv_aload_n hx hb dX5_odds_19 rfl (lv_at hl 0 rfl) ?_
        obtain ⟨r20, h20r, hf⟩ := o_bs hf
        refine k_goi (va_runV (As := []) (rest := []) ⟨hx, hb, hml, hown, hts⟩ (zX5_bad l D cy sa q rest H.size u  r20 h20r) (cwV 0 hts (gB_V wB113 wB114 wB115 wB2 wB116) rfl rfl rfl (by decide +kernel) ⟨Nat.le_of_ble_eq_true rfl, Nat.le_of_ble_eq_true rfl⟩) ⟨kP.blind, k_recv hE hP (ci := 5) (q0 := 0) rfl rfl, k_pre hP hD hS hE hA⟩ rfl rfl hl.1 rfl (lv_room (Nat.le_of_ble_eq_true rfl)) dX5_odds_20 ⟨Nat.zero_le _, Nat.zero_le _⟩) hD hS hA (fun H locs hP hD hS => ?_)
        obtain rfl := o_ret hf
        exact k_iret hx hb hr hP hD hS (Nat.zero_le _) (Nat.zero_le _) hlocks dX5_odds_23
      · have hf := o_in c10 hf
        refine lv_iload_n hx hb dX5_odds_13 rfl (lv_at hl 2 rfl) ?_
        refine lv_bipush (v := 7) hx hb dX5_odds_14 (by decide) ?_
        refine lv_icmp_le (tgt := 24) hx hb dX5_odds_16 (by decide) (fun c16 => ?_) (fun c16 => ?_)
        · have hf := o_ip c16 hf
          refine lv_aload_n hx hb dX5_odds_24 rfl (lv_at hl 0 rfl) ?_
          obtain ⟨r25, h25r, hf⟩ := o_bs hf
          refine k_goi (va_runV (As := []) (rest := []) ⟨hx, hb, hml, hown, hts⟩ (zX5_noGuesses l D cy sa q rest H.size u  r25 h25r) (cwV 0 hts (gB_V wB499 wB500 wB501 wB2 wB502) rfl rfl rfl (by decide +kernel) ⟨Nat.le_of_ble_eq_true rfl, Nat.le_of_ble_eq_true rfl⟩) ⟨kP.blind, k_recv hE hP (ci := 5) (q0 := 0) rfl rfl, k_pre hP hD hS hE hA⟩ rfl rfl hl.1 rfl (lv_room (Nat.le_of_ble_eq_true rfl)) dX5_odds_25 ⟨Nat.zero_le _, Nat.zero_le _⟩) hD hS hA (fun H locs hP hD hS => ?_)
          refine lv_if_eq (tgt := 36) hx hb dX5_odds_28 (by decide) (fun c28 => ?_) (fun c28 => ?_)
          · have hf := o_ip c28 hf
            refine lv_aload_n hx hb dX5_odds_36 rfl (lv_at hl 0 rfl) ?_
            refine va_get (ci := 5) (v := .ref (q 21)) (C := RX5) (T := TX5) (N := 9) hx hb hts inlX5 hown hE.1 hP 0 rfl rfl 5 (by decide) (hts _ wB33) (fun _ h9 => h9) rfl dX5_odds_37 ?_
            refine lv_aload_n hx hb dX5_odds_40 rfl (lv_at hl 0 rfl) ?_
            refine va_get (ci := 5) (v := .ref (q 15)) (C := RX5) (T := TX5) (N := 9) hx hb hts inlX5 hown hE.1 hP 0 rfl rfl 3 (by decide) (hts _ wB25) (fun _ h9 => h9) rfl dX5_odds_41 ?_
            refine lv_iload_n hx hb dX5_odds_44 rfl (lv_at hl 1 rfl) ?_
            refine lv_iload_n hx hb dX5_odds_45 rfl (lv_at hl 2 rfl) ?_
            obtain ⟨r46, h46r, hf⟩ := o_bs hf
            refine k_gol (va_runV (As := [.int a1, .int a2]) (rest := [.ref (q 21)]) ⟨hx, hb, hml, hown, hts⟩ (zX2_having l D cy sa q rest H.size r25.2 a1 a2 r46 h46r) (cwV 2 hts (gB_V wB539 wB540 wB541 wB24 wB542) rfl rfl rfl (by decide +kernel) ⟨Nat.le_of_ble_eq_true rfl, Nat.le_of_ble_eq_true rfl⟩) ⟨kP.blind, k_recv hE hP (ci := 2) (q0 := 15) rfl rfl, k_pre hP hD hS hE hA⟩ rfl rfl hl.1 rfl (lv_room (Nat.le_of_ble_eq_true rfl)) dX5_odds_46 ⟨Nat.zero_le _, Nat.zero_le _⟩) hD hS hA (fun H locs hP hD hS => ?_)
            refine lv_aload_n hx hb dX5_odds_49 rfl (lv_at hl 0 rfl) ?_
            refine va_get (ci := 5) (v := .ref (q 15)) (C := RX5) (T := TX5) (N := 9) hx hb hts inlX5 hown hE.1 hP 0 rfl rfl 3 (by decide) (hts _ wB25) (fun _ h9 => h9) rfl dX5_odds_50 ?_
            refine va_get (ci := 2) (v := .long (gL r25.2 0)) (C := RX2) (T := TX2) (N := 4) hx hb hts inlX2 hown hE.1 hP 15 rfl rfl 0 (by decide) (hts _ wB498) (fun _ h9 => h9) rfl dX5_odds_53 ?_
            obtain ⟨r56, h56r, hf⟩ := o_bs hf
            refine k_gov (va_runV (As := [.long r46, .long (gL r25.2 0)]) (rest := []) ⟨hx, hb, hml, hown, hts⟩ (zX1_setShare l D cy sa q rest H.size r25.2 r46 (gL r25.2 0) r56 h56r) (cwV 2 hts (gB_V wB546 wB547 wB548 wB32 wB549) rfl rfl rfl (by decide +kernel) ⟨Nat.le_of_ble_eq_true rfl, Nat.le_of_ble_eq_true rfl⟩) ⟨kP.blind, k_recv hE hP (ci := 1) (q0 := 21) rfl rfl, k_pre hP hD hS hE hA⟩ rfl rfl hl.1 rfl (lv_room (Nat.le_of_ble_eq_true rfl)) dX5_odds_56 ⟨Nat.zero_le _, Nat.zero_le _⟩) hD hS hA (fun H locs hP hD hS => ?_)
            refine lv_iconst (v := 1) hx hb dX5_odds_59 (by decide) ?_
            obtain rfl := o_ret hf
            exact k_iret hx hb hr hP hD hS (Nat.zero_le _) (Nat.zero_le _) hlocks dX5_odds_60
          · have hf := o_in c28 hf
            refine lv_aload_n hx hb dX5_odds_31 rfl (lv_at hl 0 rfl) ?_
            obtain ⟨r32, h32r, hf⟩ := o_bs hf
            refine k_goi (va_runV (As := []) (rest := []) ⟨hx, hb, hml, hown, hts⟩ (zX5_no l D cy sa q rest H.size r25.2  r32 h32r) (cwV 0 hts (gB_V wB320 wB321 wB322 wB2 wB323) rfl rfl rfl (by decide +kernel) ⟨Nat.le_of_ble_eq_true rfl, Nat.le_of_ble_eq_true rfl⟩) ⟨kP.blind, k_recv hE hP (ci := 5) (q0 := 0) rfl rfl, k_pre hP hD hS hE hA⟩ rfl rfl hl.1 rfl (lv_room (Nat.le_of_ble_eq_true rfl)) dX5_odds_32 ⟨Nat.zero_le _, Nat.zero_le _⟩) hD hS hA (fun H locs hP hD hS => ?_)
            obtain rfl := o_ret hf
            exact k_iret hx hb hr hP hD hS (Nat.zero_le _) (Nat.zero_le _) hlocks dX5_odds_35
        · have hf := o_in c16 hf
          refine lv_aload_n hx hb dX5_odds_19 rfl (lv_at hl 0 rfl) ?_
          obtain ⟨r20, h20r, hf⟩ := o_bs hf
          refine k_goi (va_runV (As := []) (rest := []) ⟨hx, hb, hml, hown, hts⟩ (zX5_bad l D cy sa q rest H.size u  r20 h20r) (cwV 0 hts (gB_V wB113 wB114 wB115 wB2 wB116) rfl rfl rfl (by decide +kernel) ⟨Nat.le_of_ble_eq_true rfl, Nat.le_of_ble_eq_true rfl⟩) ⟨kP.blind, k_recv hE hP (ci := 5) (q0 := 0) rfl rfl, k_pre hP hD hS hE hA⟩ rfl rfl hl.1 rfl (lv_room (Nat.le_of_ble_eq_true rfl)) dX5_odds_20 ⟨Nat.zero_le _, Nat.zero_le _⟩) hD hS hA (fun H locs hP hD hS => ?_)
          obtain rfl := o_ret hf
          exact k_iret hx hb hr hP hD hS (Nat.zero_le _) (Nat.zero_le _) hlocks dX5_odds_23
noncomputable def mX5_part (u : KS) (a1 : Int32) (a2 : Int32) (a3 : Int32) : Option (Int32 × KS) :=
  if a1 < 1 then
  ((mX5_bad u).bind fun r33 =>
  some (r33.1, r33.2))
  else
  (if 99 < a1 then
  ((mX5_bad u).bind fun r33 =>
  some (r33.1, r33.2))
  else
  (if a2 < 1 then
  ((mX5_bad u).bind fun r33 =>
  some (r33.1, r33.2))
  else
  (if 99 < a2 then
  ((mX5_bad u).bind fun r33 =>
  some (r33.1, r33.2))
  else
  (if a3 < 0 then
  ((mX5_bad u).bind fun r33 =>
  some (r33.1, r33.2))
  else
  (if a3 ≤ 10 then
  (if (gI u 4) < 6 then
  ((mX5_set 18 (gR u 6) ((gI u 4) * 3) a1).bind fun r75 =>
  (mX5_set 18 r75 (((gI u 4) * 3) + 1) a2).bind fun r90 =>
  (mX5_set 18 r90 (((gI u 4) * 3) + 2) a3).bind fun r105 =>
  some ((gI u 4), (sR (sI u 4 ((gI u 4) + 1)) 6 r105)))
  else
  ((mX5_full u).bind fun r50 =>
  some (r50.1, r50.2)))
  else
  ((mX5_bad u).bind fun r33 =>
  some (r33.1, r33.2)))))))
abbrev rmX5_part : Room := { frames := 3, cells := 0, slots := 0, locals := 64 }
set_option maxRecDepth 100000 in
set_option maxHeartbeats 4000000 in
theorem zX5_part (l : Launch) (D : va_G) (cy : Nat → ClassId) (sa : Nat → Nat) (q : Nat → Nat) (rest : va_W) (sz : Nat) (u : KS) (a1 : Int32) (a2 : Int32) (a3 : Int32) (res : Int32 × KS) (hf : mX5_part u a1 a2 a3 = some res) : kMi l yX5_part (wsK yX5_part cX5_part 5 (some .int)) rmX5_part D cy sa (WX q cy u ++ rest) sz [.ref (q 0), .int a1, .int a2, .int a3] res.1 (WX q cy res.2 ++ rest) 0 0 := by
  refine kM_of (Qc := fun A => kQi D A res.1 (WX q cy res.2 ++ rest)) (cc := cX5_part) (maxL := 5) (ret := (some .int)) (by decide) (Nat.le_of_ble_eq_true rfl) ?_
  intro p e s m below meth c A hx hb hml hr hts hown hlocks hin hA hP hD hS hE hsz ls hl
  have hown : s.vm.findClass RX5 = some m.cls := hown
  obtain ⟨H, hH0⟩ : ∃ H, H = s.heap := ⟨_, rfl⟩
  obtain ⟨locs, hlocs0⟩ : ∃ locs : List Loc, locs = [] := ⟨_, rfl⟩
  have hP : va_P D vwCl (WX q cy u ++ rest) H := by rw [hH0]; exact hP
  have hS : va_S A s.heap H locs := by rw [hH0, hlocs0]; exact hS
  have hl : lv_has ls 5 [(0, .ref (q 0)), (1, .int a1), (2, .int a2), (3, .int a3)] := hl
  suffices hgoal : W p l e rmX5_part s m ([.ref (q 0), .int a1, .int a2, .int a3] : List Value).toArray below meth c H locs 0 0 (MQ below (kQi D A res.1 (WX q cy res.2 ++ rest)) ([.ref (q 0), .int a1, .int a2, .int a3] : List Value).toArray s 0 0 A) (F0 m 0 ls []) by rw [hH0, hlocs0] at hgoal; exact hgoal
  clear hH0 hlocs0
  unfold mX5_part at hf
  refine lv_iload_n hx hb dX5_part_0 rfl (lv_at hl 1 rfl) ?_
  refine lv_iconst (v := 1) hx hb dX5_part_1 (by decide) ?_
  refine lv_icmp_lt (tgt := 32) hx hb dX5_part_2 (by decide) (fun c2 => ?_) (fun c2 => ?_)
  · have hf := o_ip c2 hf
    refine lv_aload_n hx hb dX5_part_32 rfl (lv_at hl 0 rfl) ?_
    obtain ⟨r33, h33r, hf⟩ := o_bs hf
    refine k_goi (va_runV (As := []) (rest := []) ⟨hx, hb, hml, hown, hts⟩ (zX5_bad l D cy sa q rest H.size u  r33 h33r) (cwV 0 hts (gB_V wB113 wB114 wB115 wB2 wB116) rfl rfl rfl (by decide +kernel) ⟨Nat.le_of_ble_eq_true rfl, Nat.le_of_ble_eq_true rfl⟩) ⟨kP.blind, k_recv hE hP (ci := 5) (q0 := 0) rfl rfl, k_pre hP hD hS hE hA⟩ rfl rfl hl.1 rfl (lv_room (Nat.le_of_ble_eq_true rfl)) dX5_part_33 ⟨Nat.zero_le _, Nat.zero_le _⟩) hD hS hA (fun H locs hP hD hS => ?_)
    obtain rfl := o_ret hf
    exact k_iret hx hb hr hP hD hS (Nat.zero_le _) (Nat.zero_le _) hlocks dX5_part_36
  · have hf := o_in c2 hf
    refine lv_iload_n hx hb dX5_part_5 rfl (lv_at hl 1 rfl) ?_
    refine lv_bipush (v := 99) hx hb dX5_part_6 (by decide) ?_
    refine lv_icmp_gt (tgt := 32) hx hb dX5_part_8 (by decide) (fun c8 => ?_) (fun c8 => ?_)
    · have hf := o_ip c8 hf
      refine lv_aload_n hx hb dX5_part_32 rfl (lv_at hl 0 rfl) ?_
      obtain ⟨r33, h33r, hf⟩ := o_bs hf
      refine k_goi (va_runV (As := []) (rest := []) ⟨hx, hb, hml, hown, hts⟩ (zX5_bad l D cy sa q rest H.size u  r33 h33r) (cwV 0 hts (gB_V wB113 wB114 wB115 wB2 wB116) rfl rfl rfl (by decide +kernel) ⟨Nat.le_of_ble_eq_true rfl, Nat.le_of_ble_eq_true rfl⟩) ⟨kP.blind, k_recv hE hP (ci := 5) (q0 := 0) rfl rfl, k_pre hP hD hS hE hA⟩ rfl rfl hl.1 rfl (lv_room (Nat.le_of_ble_eq_true rfl)) dX5_part_33 ⟨Nat.zero_le _, Nat.zero_le _⟩) hD hS hA (fun H locs hP hD hS => ?_)
      obtain rfl := o_ret hf
      exact k_iret hx hb hr hP hD hS (Nat.zero_le _) (Nat.zero_le _) hlocks dX5_part_36
    · have hf := o_in c8 hf
      refine lv_iload_n hx hb dX5_part_11 rfl (lv_at hl 2 rfl) ?_
      refine lv_iconst (v := 1) hx hb dX5_part_12 (by decide) ?_
      refine lv_icmp_lt (tgt := 32) hx hb dX5_part_13 (by decide) (fun c13 => ?_) (fun c13 => ?_)
      · have hf := o_ip c13 hf
        refine lv_aload_n hx hb dX5_part_32 rfl (lv_at hl 0 rfl) ?_
        obtain ⟨r33, h33r, hf⟩ := o_bs hf
        refine k_goi (va_runV (As := []) (rest := []) ⟨hx, hb, hml, hown, hts⟩ (zX5_bad l D cy sa q rest H.size u  r33 h33r) (cwV 0 hts (gB_V wB113 wB114 wB115 wB2 wB116) rfl rfl rfl (by decide +kernel) ⟨Nat.le_of_ble_eq_true rfl, Nat.le_of_ble_eq_true rfl⟩) ⟨kP.blind, k_recv hE hP (ci := 5) (q0 := 0) rfl rfl, k_pre hP hD hS hE hA⟩ rfl rfl hl.1 rfl (lv_room (Nat.le_of_ble_eq_true rfl)) dX5_part_33 ⟨Nat.zero_le _, Nat.zero_le _⟩) hD hS hA (fun H locs hP hD hS => ?_)
        obtain rfl := o_ret hf
        exact k_iret hx hb hr hP hD hS (Nat.zero_le _) (Nat.zero_le _) hlocks dX5_part_36
      · have hf := o_in c13 hf
        refine lv_iload_n hx hb dX5_part_16 rfl (lv_at hl 2 rfl) ?_
        refine lv_bipush (v := 99) hx hb dX5_part_17 (by decide) ?_
        refine lv_icmp_gt (tgt := 32) hx hb dX5_part_19 (by decide) (fun c19 => ?_) (fun c19 => ?_)
        · have hf := o_ip c19 hf
          refine lv_aload_n hx hb dX5_part_32 rfl (lv_at hl 0 rfl) ?_
          obtain ⟨r33, h33r, hf⟩ := o_bs hf
          refine k_goi (va_runV (As := []) (rest := []) ⟨hx, hb, hml, hown, hts⟩ (zX5_bad l D cy sa q rest H.size u  r33 h33r) (cwV 0 hts (gB_V wB113 wB114 wB115 wB2 wB116) rfl rfl rfl (by decide +kernel) ⟨Nat.le_of_ble_eq_true rfl, Nat.le_of_ble_eq_true rfl⟩) ⟨kP.blind, k_recv hE hP (ci := 5) (q0 := 0) rfl rfl, k_pre hP hD hS hE hA⟩ rfl rfl hl.1 rfl (lv_room (Nat.le_of_ble_eq_true rfl)) dX5_part_33 ⟨Nat.zero_le _, Nat.zero_le _⟩) hD hS hA (fun H locs hP hD hS => ?_)
          obtain rfl := o_ret hf
          exact k_iret hx hb hr hP hD hS (Nat.zero_le _) (Nat.zero_le _) hlocks dX5_part_36
        · have hf := o_in c19 hf
          refine lv_iload_n hx hb dX5_part_22 rfl (lv_at hl 3 rfl) ?_
          refine lv_if_lt (tgt := 32) hx hb dX5_part_23 (by decide) (fun c23 => ?_) (fun c23 => ?_)
          · have hf := o_ip c23 hf
            refine lv_aload_n hx hb dX5_part_32 rfl (lv_at hl 0 rfl) ?_
            obtain ⟨r33, h33r, hf⟩ := o_bs hf
            refine k_goi (va_runV (As := []) (rest := []) ⟨hx, hb, hml, hown, hts⟩ (zX5_bad l D cy sa q rest H.size u  r33 h33r) (cwV 0 hts (gB_V wB113 wB114 wB115 wB2 wB116) rfl rfl rfl (by decide +kernel) ⟨Nat.le_of_ble_eq_true rfl, Nat.le_of_ble_eq_true rfl⟩) ⟨kP.blind, k_recv hE hP (ci := 5) (q0 := 0) rfl rfl, k_pre hP hD hS hE hA⟩ rfl rfl hl.1 rfl (lv_room (Nat.le_of_ble_eq_true rfl)) dX5_part_33 ⟨Nat.zero_le _, Nat.zero_le _⟩) hD hS hA (fun H locs hP hD hS => ?_)
            obtain rfl := o_ret hf
            exact k_iret hx hb hr hP hD hS (Nat.zero_le _) (Nat.zero_le _) hlocks dX5_part_36
          · have hf := o_in c23 hf
            refine lv_iload_n hx hb dX5_part_26 rfl (lv_at hl 3 rfl) ?_
            refine lv_bipush (v := 10) hx hb dX5_part_27 (by decide) ?_
            refine lv_icmp_le (tgt := 37) hx hb dX5_part_29 (by decide) (fun c29 => ?_) (fun c29 => ?_)
            · have hf := o_ip c29 hf
              refine lv_aload_n hx hb dX5_part_37 rfl (lv_at hl 0 rfl) ?_
              refine va_get (ci := 5) (v := .ref (q 3)) (C := RX5) (T := TX5) (N := 9) hx hb hts inlX5 hown hE.1 hP 0 rfl rfl 0 (by decide) (hts _ wB16) (fun _ h9 => h9) rfl dX5_part_38 ?_
              refine va_get (ci := 3) (v := .int (gI u 4)) (C := RX3) (T := TX3) (N := 9) hx hb hts inlX3 hown hE.1 hP 3 rfl rfl 8 (by decide) (hts _ wB789) (fun _ h9 => h9) rfl dX5_part_41 ?_
              refine lv_bipush (v := 6) hx hb dX5_part_44 (by decide) ?_
              refine lv_icmp_lt (tgt := 54) hx hb dX5_part_46 (by decide) (fun c46 => ?_) (fun c46 => ?_)
              · have hf := o_ip c46 hf
                refine lv_aload_n hx hb dX5_part_54 rfl (lv_at hl 0 rfl) ?_
                refine va_get (ci := 5) (v := .ref (q 3)) (C := RX5) (T := TX5) (N := 9) hx hb hts inlX5 hown hE.1 hP 0 rfl rfl 0 (by decide) (hts _ wB16) (fun _ h9 => h9) rfl dX5_part_55 ?_
                refine va_get (ci := 3) (v := .int (gI u 4)) (C := RX3) (T := TX3) (N := 9) hx hb hts inlX3 hown hE.1 hP 3 rfl rfl 8 (by decide) (hts _ wB789) (fun _ h9 => h9) rfl dX5_part_58 ?_
                refine lv_iconst (v := 3) hx hb dX5_part_61 (by decide) ?_
                refine lv_imul hx hb dX5_part_62 ?_
                refine lv_istore (lv' := [(4, .int ((gI u 4) * 3)), (0, .ref (q 0)), (1, .int a1), (2, .int a2), (3, .int a3)]) hx hb dX5_part_63 hl (by decide) rfl (fun ls hl => ?_)
                refine lv_aload_n hx hb dX5_part_65 rfl (lv_at hl 1 rfl) ?_
                refine va_get (ci := 5) (v := .ref (q 3)) (C := RX5) (T := TX5) (N := 9) hx hb hts inlX5 hown hE.1 hP 0 rfl rfl 0 (by decide) (hts _ wB16) (fun _ h9 => h9) rfl dX5_part_66 ?_
                refine va_get (ci := 3) (v := .ref (q 9)) (C := RX3) (T := TX3) (N := 9) hx hb hts inlX3 hown hE.1 hP 3 rfl rfl 7 (by decide) (hts _ wB790) (fun _ h9 => h9) rfl dX5_part_69 ?_
                refine lv_iload hx hb dX5_part_72 (lv_at hl 0 rfl) ?_
                refine lv_iload_n hx hb dX5_part_74 rfl (lv_at hl 2 rfl) ?_
                obtain ⟨r75, h75r, hf⟩ := o_bs hf
                refine k_gov (va_runS (As := [.ref (q 9), .int ((gI u 4) * 3), .int a1]) (rest := []) ⟨hx, hb, hml, hown, hts⟩ (zX5_set l D cy sa (WX q cy u ++ rest) H.size 9 (q 9) 18 (gR u 6) ((gI u 4) * 3) a1 r75 rfl h75r) (va_cwS 3 hts (gB_S wB124 wB125 wB2 wB126) rfl rfl rfl (by decide +kernel) ⟨Nat.le_of_ble_eq_true rfl, Nat.le_of_ble_eq_true rfl⟩) ⟨kP.blind, k_pre hP hD hS hE hA⟩ rfl rfl hl.1 rfl (lv_room (Nat.le_of_ble_eq_true rfl)) dX5_part_75 ⟨Nat.zero_le _, Nat.zero_le _⟩) hD hS hA (fun H locs hP hD hS => ?_)
                have hP : va_P D vwCl (WX q cy (sR u 6 r75) ++ rest) H := hP
                have hD : va_D A (WX q cy (sR u 6 r75) ++ rest) := hD
                refine lv_aload_n hx hb dX5_part_78 rfl (lv_at hl 1 rfl) ?_
                refine va_get (ci := 5) (v := .ref (q 3)) (C := RX5) (T := TX5) (N := 9) hx hb hts inlX5 hown hE.1 hP 0 rfl rfl 0 (by decide) (hts _ wB16) (fun _ h9 => h9) rfl dX5_part_79 ?_
                refine va_get (ci := 3) (v := .ref (q 9)) (C := RX3) (T := TX3) (N := 9) hx hb hts inlX3 hown hE.1 hP 3 rfl rfl 7 (by decide) (hts _ wB790) (fun _ h9 => h9) rfl dX5_part_82 ?_
                refine lv_iload hx hb dX5_part_85 (lv_at hl 0 rfl) ?_
                refine lv_iconst (v := 1) hx hb dX5_part_87 (by decide) ?_
                refine lv_iadd hx hb dX5_part_88 ?_
                refine lv_iload_n hx hb dX5_part_89 rfl (lv_at hl 3 rfl) ?_
                obtain ⟨r90, h90r, hf⟩ := o_bs hf
                refine k_gov (va_runS (As := [.ref (q 9), .int (((gI u 4) * 3) + 1), .int a2]) (rest := []) ⟨hx, hb, hml, hown, hts⟩ (zX5_set l D cy sa (WX q cy (sR u 6 r75) ++ rest) H.size 9 (q 9) 18 r75 (((gI u 4) * 3) + 1) a2 r90 rfl h90r) (va_cwS 3 hts (gB_S wB124 wB125 wB2 wB126) rfl rfl rfl (by decide +kernel) ⟨Nat.le_of_ble_eq_true rfl, Nat.le_of_ble_eq_true rfl⟩) ⟨kP.blind, k_pre hP hD hS hE hA⟩ rfl rfl hl.1 rfl (lv_room (Nat.le_of_ble_eq_true rfl)) dX5_part_90 ⟨Nat.zero_le _, Nat.zero_le _⟩) hD hS hA (fun H locs hP hD hS => ?_)
                have hQ : ∀ (xb : KS) (x0 : (Nat → Int32)) (xn : (Nat → Int32)), (WX q cy (sR xb 6 x0) ++ rest).set 9 (q 9, .inl (cy 0, 18, .inl xn)) = WX q cy (sR xb 6 xn) ++ rest := fun _ _ _ => rfl
                have hP : va_P D vwCl (WX q cy (sR u 6 r90) ++ rest) H := k_wP (hQ u r75 r90) hP
                have hD : va_D A (WX q cy (sR u 6 r90) ++ rest) := k_wD (hQ u r75 r90) hD
                clear hQ
                refine lv_aload_n hx hb dX5_part_93 rfl (lv_at hl 1 rfl) ?_
                refine va_get (ci := 5) (v := .ref (q 3)) (C := RX5) (T := TX5) (N := 9) hx hb hts inlX5 hown hE.1 hP 0 rfl rfl 0 (by decide) (hts _ wB16) (fun _ h9 => h9) rfl dX5_part_94 ?_
                refine va_get (ci := 3) (v := .ref (q 9)) (C := RX3) (T := TX3) (N := 9) hx hb hts inlX3 hown hE.1 hP 3 rfl rfl 7 (by decide) (hts _ wB790) (fun _ h9 => h9) rfl dX5_part_97 ?_
                refine lv_iload hx hb dX5_part_100 (lv_at hl 0 rfl) ?_
                refine lv_iconst (v := 2) hx hb dX5_part_102 (by decide) ?_
                refine lv_iadd hx hb dX5_part_103 ?_
                refine lv_iload_n hx hb dX5_part_104 rfl (lv_at hl 4 rfl) ?_
                obtain ⟨r105, h105r, hf⟩ := o_bs hf
                refine k_gov (va_runS (As := [.ref (q 9), .int (((gI u 4) * 3) + 2), .int a3]) (rest := []) ⟨hx, hb, hml, hown, hts⟩ (zX5_set l D cy sa (WX q cy (sR u 6 r90) ++ rest) H.size 9 (q 9) 18 r90 (((gI u 4) * 3) + 2) a3 r105 rfl h105r) (va_cwS 3 hts (gB_S wB124 wB125 wB2 wB126) rfl rfl rfl (by decide +kernel) ⟨Nat.le_of_ble_eq_true rfl, Nat.le_of_ble_eq_true rfl⟩) ⟨kP.blind, k_pre hP hD hS hE hA⟩ rfl rfl hl.1 rfl (lv_room (Nat.le_of_ble_eq_true rfl)) dX5_part_105 ⟨Nat.zero_le _, Nat.zero_le _⟩) hD hS hA (fun H locs hP hD hS => ?_)
                have hQ : ∀ (xb : KS) (x0 : (Nat → Int32)) (xn : (Nat → Int32)), (WX q cy (sR xb 6 x0) ++ rest).set 9 (q 9, .inl (cy 0, 18, .inl xn)) = WX q cy (sR xb 6 xn) ++ rest := fun _ _ _ => rfl
                have hP : va_P D vwCl (WX q cy (sR u 6 r105) ++ rest) H := k_wP (hQ u r90 r105) hP
                have hD : va_D A (WX q cy (sR u 6 r105) ++ rest) := k_wD (hQ u r90 r105) hD
                clear hQ
                refine lv_aload_n hx hb dX5_part_108 rfl (lv_at hl 1 rfl) ?_
                refine va_get (ci := 5) (v := .ref (q 3)) (C := RX5) (T := TX5) (N := 9) hx hb hts inlX5 hown hE.1 hP 0 rfl rfl 0 (by decide) (hts _ wB16) (fun _ h9 => h9) rfl dX5_part_109 ?_
                refine lv_dup hx hb dX5_part_112 rfl ?_
                refine va_get (ci := 3) (v := .int (gI u 4)) (C := RX3) (T := TX3) (N := 9) hx hb hts inlX3 hown hE.1 hP 3 rfl rfl 8 (by decide) (hts _ wB789) (fun _ h9 => h9) rfl dX5_part_113 ?_
                refine lv_dup_x1 hx hb dX5_part_116 rfl rfl ?_
                refine lv_iconst (v := 1) hx hb dX5_part_117 (by decide) ?_
                refine lv_iadd hx hb dX5_part_118 ?_
                refine va_put (ci := 3) (v := .int ((gI u 4) + 1)) (ty := .int) (C := RX3) (T := TX3) (N := 9) hx hb hts inlX3 tyX3 tyX3_ok nmX3 hown hE.1 hP hD hS 3 rfl rfl 8 (by decide) (hts _ wB789) (fun _ h9 => h9) rfl (by decide +kernel) rfl rfl (Nat.le_of_ble_eq_true rfl) dX5_part_119 (fun H locs hP hD hS => ?_)
                have hQ : ∀ (xb : KS) (x0 : (Nat → Int32)) (xn : Int32), (WX q cy (sR xb 6 x0) ++ rest).set 3 (q 3, .inr (3, [.ref (q 4), .int (gI (sR xb 6 x0) 2), .ref (q 5), .ref (q 6), .ref (q 7), .ref (q 8), .int (gI (sR xb 6 x0) 3), .ref (q 9), .int (gI (sR xb 6 x0) 4)].set 8 (.int xn))) = WX q cy (sR (sI xb 4 xn) 6 x0) ++ rest := fun _ _ _ => rfl
                have hP : va_P D vwCl (WX q cy (sR (sI u 4 ((gI u 4) + 1)) 6 r105) ++ rest) H := k_wP (hQ u r105 ((gI u 4) + 1)) hP
                have hD : va_D A (WX q cy (sR (sI u 4 ((gI u 4) + 1)) 6 r105) ++ rest) := k_wD (hQ u r105 ((gI u 4) + 1)) hD
                clear hQ
                obtain rfl := o_ret hf
                exact k_iret hx hb hr hP hD hS (Nat.zero_le _) (Nat.zero_le _) hlocks dX5_part_122
              · have hf := o_in c46 hf
                refine lv_aload_n hx hb dX5_part_49 rfl (lv_at hl 0 rfl) ?_
                obtain ⟨r50, h50r, hf⟩ := o_bs hf
                refine k_goi (va_runV (As := []) (rest := []) ⟨hx, hb, hml, hown, hts⟩ (zX5_full l D cy sa q rest H.size u  r50 h50r) (cwV 0 hts (gB_V wB127 wB128 wB129 wB2 wB130) rfl rfl rfl (by decide +kernel) ⟨Nat.le_of_ble_eq_true rfl, Nat.le_of_ble_eq_true rfl⟩) ⟨kP.blind, k_recv hE hP (ci := 5) (q0 := 0) rfl rfl, k_pre hP hD hS hE hA⟩ rfl rfl hl.1 rfl (lv_room (Nat.le_of_ble_eq_true rfl)) dX5_part_50 ⟨Nat.zero_le _, Nat.zero_le _⟩) hD hS hA (fun H locs hP hD hS => ?_)
                obtain rfl := o_ret hf
                exact k_iret hx hb hr hP hD hS (Nat.zero_le _) (Nat.zero_le _) hlocks dX5_part_53
            · have hf := o_in c29 hf
              refine lv_aload_n hx hb dX5_part_32 rfl (lv_at hl 0 rfl) ?_
              obtain ⟨r33, h33r, hf⟩ := o_bs hf
              refine k_goi (va_runV (As := []) (rest := []) ⟨hx, hb, hml, hown, hts⟩ (zX5_bad l D cy sa q rest H.size u  r33 h33r) (cwV 0 hts (gB_V wB113 wB114 wB115 wB2 wB116) rfl rfl rfl (by decide +kernel) ⟨Nat.le_of_ble_eq_true rfl, Nat.le_of_ble_eq_true rfl⟩) ⟨kP.blind, k_recv hE hP (ci := 5) (q0 := 0) rfl rfl, k_pre hP hD hS hE hA⟩ rfl rfl hl.1 rfl (lv_room (Nat.le_of_ble_eq_true rfl)) dX5_part_33 ⟨Nat.zero_le _, Nat.zero_le _⟩) hD hS hA (fun H locs hP hD hS => ?_)
              obtain rfl := o_ret hf
              exact k_iret hx hb hr hP hD hS (Nat.zero_le _) (Nat.zero_le _) hlocks dX5_part_36
noncomputable def mX5_prior (u : KS) (a1 : Int32) (a2 : Int32) : Option (Int32 × KS) :=
  if a1 < 0 then
  ((mX5_bad u).bind fun r21 =>
  some (r21.1, r21.2))
  else
  (if 7 ≤ a1 then
  ((mX5_bad u).bind fun r21 =>
  some (r21.1, r21.2))
  else
  (if a2 < 0 then
  ((mX5_bad u).bind fun r21 =>
  some (r21.1, r21.2))
  else
  (if a2 ≤ 9 then
  ((mX5_at 7 (gR u 3) a1).bind fun r33 =>
  (mX5_set 7 (gR u 3) a1 a2).bind fun r46 =>
  some (r33, (sR (sI u 1 1) 3 r46)))
  else
  ((mX5_bad u).bind fun r21 =>
  some (r21.1, r21.2)))))
abbrev rmX5_prior : Room := { frames := 3, cells := 0, slots := 0, locals := 64 }
set_option maxRecDepth 100000 in
set_option maxHeartbeats 4000000 in
theorem zX5_prior (l : Launch) (D : va_G) (cy : Nat → ClassId) (sa : Nat → Nat) (q : Nat → Nat) (rest : va_W) (sz : Nat) (u : KS) (a1 : Int32) (a2 : Int32) (res : Int32 × KS) (hf : mX5_prior u a1 a2 = some res) : kMi l yX5_prior (wsK yX5_prior cX5_prior 4 (some .int)) rmX5_prior D cy sa (WX q cy u ++ rest) sz [.ref (q 0), .int a1, .int a2] res.1 (WX q cy res.2 ++ rest) 0 0 := by
  refine kM_of (Qc := fun A => kQi D A res.1 (WX q cy res.2 ++ rest)) (cc := cX5_prior) (maxL := 4) (ret := (some .int)) (by decide) (Nat.le_of_ble_eq_true rfl) ?_
  intro p e s m below meth c A hx hb hml hr hts hown hlocks hin hA hP hD hS hE hsz ls hl
  have hown : s.vm.findClass RX5 = some m.cls := hown
  obtain ⟨H, hH0⟩ : ∃ H, H = s.heap := ⟨_, rfl⟩
  obtain ⟨locs, hlocs0⟩ : ∃ locs : List Loc, locs = [] := ⟨_, rfl⟩
  have hP : va_P D vwCl (WX q cy u ++ rest) H := by rw [hH0]; exact hP
  have hS : va_S A s.heap H locs := by rw [hH0, hlocs0]; exact hS
  have hl : lv_has ls 4 [(0, .ref (q 0)), (1, .int a1), (2, .int a2)] := hl
  suffices hgoal : W p l e rmX5_prior s m ([.ref (q 0), .int a1, .int a2] : List Value).toArray below meth c H locs 0 0 (MQ below (kQi D A res.1 (WX q cy res.2 ++ rest)) ([.ref (q 0), .int a1, .int a2] : List Value).toArray s 0 0 A) (F0 m 0 ls []) by rw [hH0, hlocs0] at hgoal; exact hgoal
  clear hH0 hlocs0
  unfold mX5_prior at hf
  refine lv_iload_n hx hb dX5_prior_0 rfl (lv_at hl 1 rfl) ?_
  refine lv_if_lt (tgt := 20) hx hb dX5_prior_1 (by decide) (fun c1 => ?_) (fun c1 => ?_)
  · have hf := o_ip c1 hf
    refine lv_aload_n hx hb dX5_prior_20 rfl (lv_at hl 0 rfl) ?_
    obtain ⟨r21, h21r, hf⟩ := o_bs hf
    refine k_goi (va_runV (As := []) (rest := []) ⟨hx, hb, hml, hown, hts⟩ (zX5_bad l D cy sa q rest H.size u  r21 h21r) (cwV 0 hts (gB_V wB113 wB114 wB115 wB2 wB116) rfl rfl rfl (by decide +kernel) ⟨Nat.le_of_ble_eq_true rfl, Nat.le_of_ble_eq_true rfl⟩) ⟨kP.blind, k_recv hE hP (ci := 5) (q0 := 0) rfl rfl, k_pre hP hD hS hE hA⟩ rfl rfl hl.1 rfl (lv_room (Nat.le_of_ble_eq_true rfl)) dX5_prior_21 ⟨Nat.zero_le _, Nat.zero_le _⟩) hD hS hA (fun H locs hP hD hS => ?_)
    obtain rfl := o_ret hf
    exact k_iret hx hb hr hP hD hS (Nat.zero_le _) (Nat.zero_le _) hlocks dX5_prior_24
  · have hf := o_in c1 hf
    refine lv_iload_n hx hb dX5_prior_4 rfl (lv_at hl 1 rfl) ?_
    refine lv_bipush (v := 7) hx hb dX5_prior_5 (by decide) ?_
    refine lv_icmp_ge (tgt := 20) hx hb dX5_prior_7 (by decide) (fun c7 => ?_) (fun c7 => ?_)
    · have hf := o_ip c7 hf
      refine lv_aload_n hx hb dX5_prior_20 rfl (lv_at hl 0 rfl) ?_
      obtain ⟨r21, h21r, hf⟩ := o_bs hf
      refine k_goi (va_runV (As := []) (rest := []) ⟨hx, hb, hml, hown, hts⟩ (zX5_bad l D cy sa q rest H.size u  r21 h21r) (cwV 0 hts (gB_V wB113 wB114 wB115 wB2 wB116) rfl rfl rfl (by decide +kernel) ⟨Nat.le_of_ble_eq_true rfl, Nat.le_of_ble_eq_true rfl⟩) ⟨kP.blind, k_recv hE hP (ci := 5) (q0 := 0) rfl rfl, k_pre hP hD hS hE hA⟩ rfl rfl hl.1 rfl (lv_room (Nat.le_of_ble_eq_true rfl)) dX5_prior_21 ⟨Nat.zero_le _, Nat.zero_le _⟩) hD hS hA (fun H locs hP hD hS => ?_)
      obtain rfl := o_ret hf
      exact k_iret hx hb hr hP hD hS (Nat.zero_le _) (Nat.zero_le _) hlocks dX5_prior_24
    · have hf := o_in c7 hf
      refine lv_iload_n hx hb dX5_prior_10 rfl (lv_at hl 2 rfl) ?_
      refine lv_if_lt (tgt := 20) hx hb dX5_prior_11 (by decide) (fun c11 => ?_) (fun c11 => ?_)
      · have hf := o_ip c11 hf
        refine lv_aload_n hx hb dX5_prior_20 rfl (lv_at hl 0 rfl) ?_
        obtain ⟨r21, h21r, hf⟩ := o_bs hf
        refine k_goi (va_runV (As := []) (rest := []) ⟨hx, hb, hml, hown, hts⟩ (zX5_bad l D cy sa q rest H.size u  r21 h21r) (cwV 0 hts (gB_V wB113 wB114 wB115 wB2 wB116) rfl rfl rfl (by decide +kernel) ⟨Nat.le_of_ble_eq_true rfl, Nat.le_of_ble_eq_true rfl⟩) ⟨kP.blind, k_recv hE hP (ci := 5) (q0 := 0) rfl rfl, k_pre hP hD hS hE hA⟩ rfl rfl hl.1 rfl (lv_room (Nat.le_of_ble_eq_true rfl)) dX5_prior_21 ⟨Nat.zero_le _, Nat.zero_le _⟩) hD hS hA (fun H locs hP hD hS => ?_)
        obtain rfl := o_ret hf
        exact k_iret hx hb hr hP hD hS (Nat.zero_le _) (Nat.zero_le _) hlocks dX5_prior_24
      · have hf := o_in c11 hf
        refine lv_iload_n hx hb dX5_prior_14 rfl (lv_at hl 2 rfl) ?_
        refine lv_bipush (v := 9) hx hb dX5_prior_15 (by decide) ?_
        refine lv_icmp_le (tgt := 25) hx hb dX5_prior_17 (by decide) (fun c17 => ?_) (fun c17 => ?_)
        · have hf := o_ip c17 hf
          refine lv_aload_n hx hb dX5_prior_25 rfl (lv_at hl 0 rfl) ?_
          refine va_get (ci := 5) (v := .ref (q 3)) (C := RX5) (T := TX5) (N := 9) hx hb hts inlX5 hown hE.1 hP 0 rfl rfl 0 (by decide) (hts _ wB16) (fun _ h9 => h9) rfl dX5_prior_26 ?_
          refine va_get (ci := 3) (v := .ref (q 6)) (C := RX3) (T := TX3) (N := 9) hx hb hts inlX3 hown hE.1 hP 3 rfl rfl 3 (by decide) (hts _ wB352) (fun _ h9 => h9) rfl dX5_prior_29 ?_
          refine lv_iload_n hx hb dX5_prior_32 rfl (lv_at hl 1 rfl) ?_
          obtain ⟨r33, h33r, hf⟩ := o_bs hf
          refine k_goi (va_runS (As := [.ref (q 6), .int a1]) (rest := []) ⟨hx, hb, hml, hown, hts⟩ (zX5_at l D cy sa (WX q cy u ++ rest) H.size 6 (q 6) 7 (gR u 3) a1 r33 rfl h33r) (va_cwS 2 hts (gB_S wB121 wB122 wB2 wB123) rfl rfl rfl (by decide +kernel) ⟨Nat.le_of_ble_eq_true rfl, Nat.le_of_ble_eq_true rfl⟩) ⟨kP.blind, k_pre hP hD hS hE hA⟩ rfl rfl hl.1 rfl (lv_room (Nat.le_of_ble_eq_true rfl)) dX5_prior_33 ⟨Nat.zero_le _, Nat.zero_le _⟩) hD hS hA (fun H locs hP hD hS => ?_)
          refine lv_istore_n (lv' := [(3, .int r33), (0, .ref (q 0)), (1, .int a1), (2, .int a2)]) hx hb dX5_prior_36 rfl hl (by decide) rfl (fun ls hl => ?_)
          refine lv_aload_n hx hb dX5_prior_37 rfl (lv_at hl 1 rfl) ?_
          refine va_get (ci := 5) (v := .ref (q 3)) (C := RX5) (T := TX5) (N := 9) hx hb hts inlX5 hown hE.1 hP 0 rfl rfl 0 (by decide) (hts _ wB16) (fun _ h9 => h9) rfl dX5_prior_38 ?_
          refine va_get (ci := 3) (v := .ref (q 6)) (C := RX3) (T := TX3) (N := 9) hx hb hts inlX3 hown hE.1 hP 3 rfl rfl 3 (by decide) (hts _ wB352) (fun _ h9 => h9) rfl dX5_prior_41 ?_
          refine lv_iload_n hx hb dX5_prior_44 rfl (lv_at hl 2 rfl) ?_
          refine lv_iload_n hx hb dX5_prior_45 rfl (lv_at hl 3 rfl) ?_
          obtain ⟨r46, h46r, hf⟩ := o_bs hf
          refine k_gov (va_runS (As := [.ref (q 6), .int a1, .int a2]) (rest := []) ⟨hx, hb, hml, hown, hts⟩ (zX5_set l D cy sa (WX q cy u ++ rest) H.size 6 (q 6) 7 (gR u 3) a1 a2 r46 rfl h46r) (va_cwS 3 hts (gB_S wB124 wB125 wB2 wB126) rfl rfl rfl (by decide +kernel) ⟨Nat.le_of_ble_eq_true rfl, Nat.le_of_ble_eq_true rfl⟩) ⟨kP.blind, k_pre hP hD hS hE hA⟩ rfl rfl hl.1 rfl (lv_room (Nat.le_of_ble_eq_true rfl)) dX5_prior_46 ⟨Nat.zero_le _, Nat.zero_le _⟩) hD hS hA (fun H locs hP hD hS => ?_)
          have hP : va_P D vwCl (WX q cy (sR u 3 r46) ++ rest) H := hP
          have hD : va_D A (WX q cy (sR u 3 r46) ++ rest) := hD
          refine lv_aload_n hx hb dX5_prior_49 rfl (lv_at hl 1 rfl) ?_
          refine lv_iconst (v := 1) hx hb dX5_prior_50 (by decide) ?_
          refine va_put (ci := 5) (v := .int 1) (ty := .boolean) (C := RX5) (T := TX5) (N := 9) hx hb hts inlX5 tyX5 tyX5_ok nmX5 hown hE.1 hP hD hS 0 rfl rfl 8 (by decide) (hts _ wB37) (fun _ h9 => h9) rfl (by decide +kernel) rfl rfl (Nat.le_of_ble_eq_true rfl) dX5_prior_51 (fun H locs hP hD hS => ?_)
          have hQ : ∀ (xb : KS) (x0 : (Nat → Int32)) (xn : Int32), (WX q cy (sR xb 3 x0) ++ rest).set 0 (q 0, .inr (5, [.ref (q 3), .ref (q 1), .ref (q 10), .ref (q 15), .ref (q 19), .ref (q 21), .ref (q 2), .int (gI (sR xb 3 x0) 0), .int (gI (sR xb 3 x0) 1)].set 8 (.int xn))) = WX q cy (sR (sI xb 1 xn) 3 x0) ++ rest := fun _ _ _ => rfl
          have hP : va_P D vwCl (WX q cy (sR (sI u 1 1) 3 r46) ++ rest) H := k_wP (hQ u r46 1) hP
          have hD : va_D A (WX q cy (sR (sI u 1 1) 3 r46) ++ rest) := k_wD (hQ u r46 1) hD
          clear hQ
          refine lv_iload_n hx hb dX5_prior_54 rfl (lv_at hl 0 rfl) ?_
          obtain rfl := o_ret hf
          exact k_iret hx hb hr hP hD hS (Nat.zero_le _) (Nat.zero_le _) hlocks dX5_prior_55
        · have hf := o_in c17 hf
          refine lv_aload_n hx hb dX5_prior_20 rfl (lv_at hl 0 rfl) ?_
          obtain ⟨r21, h21r, hf⟩ := o_bs hf
          refine k_goi (va_runV (As := []) (rest := []) ⟨hx, hb, hml, hown, hts⟩ (zX5_bad l D cy sa q rest H.size u  r21 h21r) (cwV 0 hts (gB_V wB113 wB114 wB115 wB2 wB116) rfl rfl rfl (by decide +kernel) ⟨Nat.le_of_ble_eq_true rfl, Nat.le_of_ble_eq_true rfl⟩) ⟨kP.blind, k_recv hE hP (ci := 5) (q0 := 0) rfl rfl, k_pre hP hD hS hE hA⟩ rfl rfl hl.1 rfl (lv_room (Nat.le_of_ble_eq_true rfl)) dX5_prior_21 ⟨Nat.zero_le _, Nat.zero_le _⟩) hD hS hA (fun H locs hP hD hS => ?_)
          obtain rfl := o_ret hf
          exact k_iret hx hb hr hP hD hS (Nat.zero_le _) (Nat.zero_le _) hlocks dX5_prior_24
noncomputable def mX5_put (u : KS) (a1 : Int32) (a2 : Int32) : Option (Int32 × KS) :=
  (mX5_isSetting a1 a2).bind fun r2 =>
  if r2 = 0 then
  ((mX5_bad u).bind fun r9 =>
  some (r9.1, r9.2))
  else
  ((mX5_at 4 (gR u 2) a1).bind fun r21 =>
  (mX5_set 4 (gR u 2) a1 a2).bind fun r34 =>
  (mX5_dayChanged (sR u 2 r34)).bind fun r38 =>
  some (r21, r38))
abbrev rmX5_put : Room := { frames := 3, cells := 0, slots := 0, locals := 64 }
set_option maxRecDepth 100000 in
set_option maxHeartbeats 4000000 in
theorem zX5_put (l : Launch) (D : va_G) (cy : Nat → ClassId) (sa : Nat → Nat) (q : Nat → Nat) (rest : va_W) (sz : Nat) (u : KS) (a1 : Int32) (a2 : Int32) (res : Int32 × KS) (hf : mX5_put u a1 a2 = some res) : kMi l yX5_put (wsK yX5_put cX5_put 4 (some .int)) rmX5_put D cy sa (WX q cy u ++ rest) sz [.ref (q 0), .int a1, .int a2] res.1 (WX q cy res.2 ++ rest) 0 0 := by
  refine kM_of (Qc := fun A => kQi D A res.1 (WX q cy res.2 ++ rest)) (cc := cX5_put) (maxL := 4) (ret := (some .int)) (by decide) (Nat.le_of_ble_eq_true rfl) ?_
  intro p e s m below meth c A hx hb hml hr hts hown hlocks hin hA hP hD hS hE hsz ls hl
  have hown : s.vm.findClass RX5 = some m.cls := hown
  obtain ⟨H, hH0⟩ : ∃ H, H = s.heap := ⟨_, rfl⟩
  obtain ⟨locs, hlocs0⟩ : ∃ locs : List Loc, locs = [] := ⟨_, rfl⟩
  have hP : va_P D vwCl (WX q cy u ++ rest) H := by rw [hH0]; exact hP
  have hS : va_S A s.heap H locs := by rw [hH0, hlocs0]; exact hS
  have hl : lv_has ls 4 [(0, .ref (q 0)), (1, .int a1), (2, .int a2)] := hl
  suffices hgoal : W p l e rmX5_put s m ([.ref (q 0), .int a1, .int a2] : List Value).toArray below meth c H locs 0 0 (MQ below (kQi D A res.1 (WX q cy res.2 ++ rest)) ([.ref (q 0), .int a1, .int a2] : List Value).toArray s 0 0 A) (F0 m 0 ls []) by rw [hH0, hlocs0] at hgoal; exact hgoal
  clear hH0 hlocs0
  unfold mX5_put at hf
  refine lv_iload_n hx hb dX5_put_0 rfl (lv_at hl 1 rfl) ?_
  refine lv_iload_n hx hb dX5_put_1 rfl (lv_at hl 2 rfl) ?_
  obtain ⟨r2, h2r, hf⟩ := o_bs hf
  refine k_goi (va_runS (As := [.int a1, .int a2]) (rest := []) ⟨hx, hb, hml, hown, hts⟩ (zX5_isSetting l D cy sa (WX q cy u ++ rest) H.size a1 a2  r2  h2r) (va_cwS 2 hts (gB_S wB336 wB337 wB2 wB338) rfl rfl rfl (by decide +kernel) ⟨Nat.le_of_ble_eq_true rfl, Nat.le_of_ble_eq_true rfl⟩) ⟨kP.blind, k_pre hP hD hS hE hA⟩ rfl rfl hl.1 rfl (lv_room (Nat.le_of_ble_eq_true rfl)) dX5_put_2 ⟨Nat.zero_le _, Nat.zero_le _⟩) hD hS hA (fun H locs hP hD hS => ?_)
  refine lv_if_ne (tgt := 13) hx hb dX5_put_5 (by decide) (fun c5 => ?_) (fun c5 => ?_)
  · have hf := o_in c5 hf
    refine lv_aload_n hx hb dX5_put_13 rfl (lv_at hl 0 rfl) ?_
    refine va_get (ci := 5) (v := .ref (q 3)) (C := RX5) (T := TX5) (N := 9) hx hb hts inlX5 hown hE.1 hP 0 rfl rfl 0 (by decide) (hts _ wB16) (fun _ h9 => h9) rfl dX5_put_14 ?_
    refine va_get (ci := 3) (v := .ref (q 5)) (C := RX3) (T := TX3) (N := 9) hx hb hts inlX3 hown hE.1 hP 3 rfl rfl 2 (by decide) (hts _ wB177) (fun _ h9 => h9) rfl dX5_put_17 ?_
    refine lv_iload_n hx hb dX5_put_20 rfl (lv_at hl 1 rfl) ?_
    obtain ⟨r21, h21r, hf⟩ := o_bs hf
    refine k_goi (va_runS (As := [.ref (q 5), .int a1]) (rest := []) ⟨hx, hb, hml, hown, hts⟩ (zX5_at l D cy sa (WX q cy u ++ rest) H.size 5 (q 5) 4 (gR u 2) a1 r21 rfl h21r) (va_cwS 2 hts (gB_S wB121 wB122 wB2 wB123) rfl rfl rfl (by decide +kernel) ⟨Nat.le_of_ble_eq_true rfl, Nat.le_of_ble_eq_true rfl⟩) ⟨kP.blind, k_pre hP hD hS hE hA⟩ rfl rfl hl.1 rfl (lv_room (Nat.le_of_ble_eq_true rfl)) dX5_put_21 ⟨Nat.zero_le _, Nat.zero_le _⟩) hD hS hA (fun H locs hP hD hS => ?_)
    refine lv_istore_n (lv' := [(3, .int r21), (0, .ref (q 0)), (1, .int a1), (2, .int a2)]) hx hb dX5_put_24 rfl hl (by decide) rfl (fun ls hl => ?_)
    refine lv_aload_n hx hb dX5_put_25 rfl (lv_at hl 1 rfl) ?_
    refine va_get (ci := 5) (v := .ref (q 3)) (C := RX5) (T := TX5) (N := 9) hx hb hts inlX5 hown hE.1 hP 0 rfl rfl 0 (by decide) (hts _ wB16) (fun _ h9 => h9) rfl dX5_put_26 ?_
    refine va_get (ci := 3) (v := .ref (q 5)) (C := RX3) (T := TX3) (N := 9) hx hb hts inlX3 hown hE.1 hP 3 rfl rfl 2 (by decide) (hts _ wB177) (fun _ h9 => h9) rfl dX5_put_29 ?_
    refine lv_iload_n hx hb dX5_put_32 rfl (lv_at hl 2 rfl) ?_
    refine lv_iload_n hx hb dX5_put_33 rfl (lv_at hl 3 rfl) ?_
    obtain ⟨r34, h34r, hf⟩ := o_bs hf
    refine k_gov (va_runS (As := [.ref (q 5), .int a1, .int a2]) (rest := []) ⟨hx, hb, hml, hown, hts⟩ (zX5_set l D cy sa (WX q cy u ++ rest) H.size 5 (q 5) 4 (gR u 2) a1 a2 r34 rfl h34r) (va_cwS 3 hts (gB_S wB124 wB125 wB2 wB126) rfl rfl rfl (by decide +kernel) ⟨Nat.le_of_ble_eq_true rfl, Nat.le_of_ble_eq_true rfl⟩) ⟨kP.blind, k_pre hP hD hS hE hA⟩ rfl rfl hl.1 rfl (lv_room (Nat.le_of_ble_eq_true rfl)) dX5_put_34 ⟨Nat.zero_le _, Nat.zero_le _⟩) hD hS hA (fun H locs hP hD hS => ?_)
    have hP : va_P D vwCl (WX q cy (sR u 2 r34) ++ rest) H := hP
    have hD : va_D A (WX q cy (sR u 2 r34) ++ rest) := hD
    refine lv_aload_n hx hb dX5_put_37 rfl (lv_at hl 1 rfl) ?_
    obtain ⟨r38, h38r, hf⟩ := o_bs hf
    refine k_gov (va_runV (As := []) (rest := []) ⟨hx, hb, hml, hown, hts⟩ (zX5_dayChanged l D cy sa q rest H.size (sR u 2 r34)  r38 h38r) (cwV 0 hts (gB_V wB131 wB132 wB133 wB2 wB134) rfl rfl rfl (by decide +kernel) ⟨Nat.le_of_ble_eq_true rfl, Nat.le_of_ble_eq_true rfl⟩) ⟨kP.blind, k_recv hE hP (ci := 5) (q0 := 0) rfl rfl, k_pre hP hD hS hE hA⟩ rfl rfl hl.1 rfl (lv_room (Nat.le_of_ble_eq_true rfl)) dX5_put_38 ⟨Nat.zero_le _, Nat.zero_le _⟩) hD hS hA (fun H locs hP hD hS => ?_)
    refine lv_iload_n hx hb dX5_put_41 rfl (lv_at hl 0 rfl) ?_
    obtain rfl := o_ret hf
    exact k_iret hx hb hr hP hD hS (Nat.zero_le _) (Nat.zero_le _) hlocks dX5_put_42
  · have hf := o_ip c5 hf
    refine lv_aload_n hx hb dX5_put_8 rfl (lv_at hl 0 rfl) ?_
    obtain ⟨r9, h9r, hf⟩ := o_bs hf
    refine k_goi (va_runV (As := []) (rest := []) ⟨hx, hb, hml, hown, hts⟩ (zX5_bad l D cy sa q rest H.size u  r9 h9r) (cwV 0 hts (gB_V wB113 wB114 wB115 wB2 wB116) rfl rfl rfl (by decide +kernel) ⟨Nat.le_of_ble_eq_true rfl, Nat.le_of_ble_eq_true rfl⟩) ⟨kP.blind, k_recv hE hP (ci := 5) (q0 := 0) rfl rfl, k_pre hP hD hS hE hA⟩ rfl rfl hl.1 rfl (lv_room (Nat.le_of_ble_eq_true rfl)) dX5_put_9 ⟨Nat.zero_le _, Nat.zero_le _⟩) hD hS hA (fun H locs hP hD hS => ?_)
    obtain rfl := o_ret hf
    exact k_iret hx hb hr hP hD hS (Nat.zero_le _) (Nat.zero_le _) hlocks dX5_put_12
noncomputable def mX5_sign (u : KS) (a1 : Int32) : Option (Int32 × KS) :=
  if a1 < 0 then
  ((mX5_bad u).bind fun r10 =>
  some (r10.1, r10.2))
  else
  (if a1 ≤ 2 then
  ((mX5_signOf u a1).bind fun r16 =>
  some (r16, u))
  else
  ((mX5_bad u).bind fun r10 =>
  some (r10.1, r10.2)))
abbrev rmX5_sign : Room := { frames := 3, cells := 0, slots := 0, locals := 64 }
set_option maxRecDepth 100000 in
set_option maxHeartbeats 4000000 in
theorem zX5_sign (l : Launch) (D : va_G) (cy : Nat → ClassId) (sa : Nat → Nat) (q : Nat → Nat) (rest : va_W) (sz : Nat) (u : KS) (a1 : Int32) (res : Int32 × KS) (hf : mX5_sign u a1 = some res) : kMi l yX5_sign (wsK yX5_sign cX5_sign 2 (some .int)) rmX5_sign D cy sa (WX q cy u ++ rest) sz [.ref (q 0), .int a1] res.1 (WX q cy res.2 ++ rest) 0 0 := by
  refine kM_of (Qc := fun A => kQi D A res.1 (WX q cy res.2 ++ rest)) (cc := cX5_sign) (maxL := 2) (ret := (some .int)) (by decide) (Nat.le_of_ble_eq_true rfl) ?_
  intro p e s m below meth c A hx hb hml hr hts hown hlocks hin hA hP hD hS hE hsz ls hl
  have hown : s.vm.findClass RX5 = some m.cls := hown
  obtain ⟨H, hH0⟩ : ∃ H, H = s.heap := ⟨_, rfl⟩
  obtain ⟨locs, hlocs0⟩ : ∃ locs : List Loc, locs = [] := ⟨_, rfl⟩
  have hP : va_P D vwCl (WX q cy u ++ rest) H := by rw [hH0]; exact hP
  have hS : va_S A s.heap H locs := by rw [hH0, hlocs0]; exact hS
  have hl : lv_has ls 2 [(0, .ref (q 0)), (1, .int a1)] := hl
  suffices hgoal : W p l e rmX5_sign s m ([.ref (q 0), .int a1] : List Value).toArray below meth c H locs 0 0 (MQ below (kQi D A res.1 (WX q cy res.2 ++ rest)) ([.ref (q 0), .int a1] : List Value).toArray s 0 0 A) (F0 m 0 ls []) by rw [hH0, hlocs0] at hgoal; exact hgoal
  clear hH0 hlocs0
  unfold mX5_sign at hf
  refine lv_iload_n hx hb dX5_sign_0 rfl (lv_at hl 1 rfl) ?_
  refine lv_if_lt (tgt := 9) hx hb dX5_sign_1 (by decide) (fun c1 => ?_) (fun c1 => ?_)
  · have hf := o_ip c1 hf
    refine lv_aload_n hx hb dX5_sign_9 rfl (lv_at hl 0 rfl) ?_
    obtain ⟨r10, h10r, hf⟩ := o_bs hf
    refine k_goi (va_runV (As := []) (rest := []) ⟨hx, hb, hml, hown, hts⟩ (zX5_bad l D cy sa q rest H.size u  r10 h10r) (cwV 0 hts (gB_V wB113 wB114 wB115 wB2 wB116) rfl rfl rfl (by decide +kernel) ⟨Nat.le_of_ble_eq_true rfl, Nat.le_of_ble_eq_true rfl⟩) ⟨kP.blind, k_recv hE hP (ci := 5) (q0 := 0) rfl rfl, k_pre hP hD hS hE hA⟩ rfl rfl hl.1 rfl (lv_room (Nat.le_of_ble_eq_true rfl)) dX5_sign_10 ⟨Nat.zero_le _, Nat.zero_le _⟩) hD hS hA (fun H locs hP hD hS => ?_)
    obtain rfl := o_ret hf
    exact k_iret hx hb hr hP hD hS (Nat.zero_le _) (Nat.zero_le _) hlocks dX5_sign_13
  · have hf := o_in c1 hf
    refine lv_iload_n hx hb dX5_sign_4 rfl (lv_at hl 1 rfl) ?_
    refine lv_iconst (v := 2) hx hb dX5_sign_5 (by decide) ?_
    refine lv_icmp_le (tgt := 14) hx hb dX5_sign_6 (by decide) (fun c6 => ?_) (fun c6 => ?_)
    · have hf := o_ip c6 hf
      refine lv_aload_n hx hb dX5_sign_14 rfl (lv_at hl 0 rfl) ?_
      refine lv_iload_n hx hb dX5_sign_15 rfl (lv_at hl 1 rfl) ?_
      obtain ⟨r16, h16r, hf⟩ := o_bs hf
      refine k_goi (va_runV (As := [.int a1]) (rest := []) ⟨hx, hb, hml, hown, hts⟩ (zX5_signOf l D cy sa q rest H.size u a1 r16 h16r) (cwV 1 hts (gB_V wB816 wB817 wB818 wB2 wB819) rfl rfl rfl (by decide +kernel) ⟨Nat.le_of_ble_eq_true rfl, Nat.le_of_ble_eq_true rfl⟩) ⟨kP.blind, k_recv hE hP (ci := 5) (q0 := 0) rfl rfl, k_pre hP hD hS hE hA⟩ rfl rfl hl.1 rfl (lv_room (Nat.le_of_ble_eq_true rfl)) dX5_sign_16 ⟨Nat.zero_le _, Nat.zero_le _⟩) hD hS hA (fun H locs hP hD hS => ?_)
      obtain rfl := o_ret hf
      exact k_iret hx hb hr hP hD hS (Nat.zero_le _) (Nat.zero_le _) hlocks dX5_sign_19
    · have hf := o_in c6 hf
      refine lv_aload_n hx hb dX5_sign_9 rfl (lv_at hl 0 rfl) ?_
      obtain ⟨r10, h10r, hf⟩ := o_bs hf
      refine k_goi (va_runV (As := []) (rest := []) ⟨hx, hb, hml, hown, hts⟩ (zX5_bad l D cy sa q rest H.size u  r10 h10r) (cwV 0 hts (gB_V wB113 wB114 wB115 wB2 wB116) rfl rfl rfl (by decide +kernel) ⟨Nat.le_of_ble_eq_true rfl, Nat.le_of_ble_eq_true rfl⟩) ⟨kP.blind, k_recv hE hP (ci := 5) (q0 := 0) rfl rfl, k_pre hP hD hS hE hA⟩ rfl rfl hl.1 rfl (lv_room (Nat.le_of_ble_eq_true rfl)) dX5_sign_10 ⟨Nat.zero_le _, Nat.zero_le _⟩) hD hS hA (fun H locs hP hD hS => ?_)
      obtain rfl := o_ret hf
      exact k_iret hx hb hr hP hD hS (Nat.zero_le _) (Nat.zero_le _) hlocks dX5_sign_13
noncomputable def mX5_smoke (u : KS) (a1 : Int32) (a2 : Int32) (a3 : Int32) : Option (Int32 × KS) :=
  (mX5_dayIsFaulty u).bind fun r1 =>
  if r1.1 = 0 then
  ((mX0_has r1.2 a1).bind fun r17 =>
  if r17 = 0 then
  ((mX5_bad r1.2).bind fun r38 =>
  some (r38.1, r38.2))
  else
  ((mX5_isColor a2).bind fun r24 =>
  if r24 = 0 then
  ((mX5_bad r1.2).bind fun r38 =>
  some (r38.1, r38.2))
  else
  ((mX5_isCut a3).bind fun r31 =>
  if r31 = 0 then
  ((mX5_bad r1.2).bind fun r38 =>
  some (r38.1, r38.2))
  else
  ((mX5_smokeOf r1.2 a1 a2 a3).bind fun r46 =>
  some (r46, r1.2)))))
  else
  ((mX5_no r1.2).bind fun r8 =>
  some (r8.1, r8.2))
abbrev rmX5_smoke : Room := { frames := 10, cells := 0, slots := 0, locals := 217 }
set_option maxRecDepth 100000 in
set_option maxHeartbeats 4000000 in
theorem zX5_smoke (l : Launch) (D : va_G) (cy : Nat → ClassId) (sa : Nat → Nat) (q : Nat → Nat) (rest : va_W) (sz : Nat) (u : KS) (a1 : Int32) (a2 : Int32) (a3 : Int32) (res : Int32 × KS) (hf : mX5_smoke u a1 a2 a3 = some res) : kMi l yX5_smoke (wsK yX5_smoke cX5_smoke 4 (some .int)) rmX5_smoke D cy sa (WX q cy u ++ rest) sz [.ref (q 0), .int a1, .int a2, .int a3] res.1 (WX q cy res.2 ++ rest) 0 0 := by
  refine kM_of (Qc := fun A => kQi D A res.1 (WX q cy res.2 ++ rest)) (cc := cX5_smoke) (maxL := 4) (ret := (some .int)) (by decide) (Nat.le_of_ble_eq_true rfl) ?_
  intro p e s m below meth c A hx hb hml hr hts hown hlocks hin hA hP hD hS hE hsz ls hl
  have hown : s.vm.findClass RX5 = some m.cls := hown
  obtain ⟨H, hH0⟩ : ∃ H, H = s.heap := ⟨_, rfl⟩
  obtain ⟨locs, hlocs0⟩ : ∃ locs : List Loc, locs = [] := ⟨_, rfl⟩
  have hP : va_P D vwCl (WX q cy u ++ rest) H := by rw [hH0]; exact hP
  have hS : va_S A s.heap H locs := by rw [hH0, hlocs0]; exact hS
  have hl : lv_has ls 4 [(0, .ref (q 0)), (1, .int a1), (2, .int a2), (3, .int a3)] := hl
  suffices hgoal : W p l e rmX5_smoke s m ([.ref (q 0), .int a1, .int a2, .int a3] : List Value).toArray below meth c H locs 0 0 (MQ below (kQi D A res.1 (WX q cy res.2 ++ rest)) ([.ref (q 0), .int a1, .int a2, .int a3] : List Value).toArray s 0 0 A) (F0 m 0 ls []) by rw [hH0, hlocs0] at hgoal; exact hgoal
  clear hH0 hlocs0
  unfold mX5_smoke at hf
  refine lv_aload_n hx hb dX5_smoke_0 rfl (lv_at hl 0 rfl) ?_
  obtain ⟨r1, h1r, hf⟩ := o_bs hf
  refine k_goi (va_runV (As := []) (rest := []) ⟨hx, hb, hml, hown, hts⟩ (zX5_dayIsFaulty l D cy sa q rest H.size u  r1 h1r) (cwV 0 hts (gB_V wB316 wB317 wB318 wB2 wB319) rfl rfl rfl (by decide +kernel) ⟨Nat.le_of_ble_eq_true rfl, Nat.le_of_ble_eq_true rfl⟩) ⟨kP.blind, k_recv hE hP (ci := 5) (q0 := 0) rfl rfl, k_pre hP hD hS hE hA⟩ rfl rfl hl.1 rfl (lv_room (Nat.le_of_ble_eq_true rfl)) dX5_smoke_1 ⟨Nat.zero_le _, Nat.zero_le _⟩) hD hS hA (fun H locs hP hD hS => ?_)
  refine lv_if_eq (tgt := 12) hx hb dX5_smoke_4 (by decide) (fun c4 => ?_) (fun c4 => ?_)
  · have hf := o_ip c4 hf
    refine lv_aload_n hx hb dX5_smoke_12 rfl (lv_at hl 0 rfl) ?_
    refine va_get (ci := 5) (v := .ref (q 10)) (C := RX5) (T := TX5) (N := 9) hx hb hts inlX5 hown hE.1 hP 0 rfl rfl 2 (by decide) (hts _ wB21) (fun _ h9 => h9) rfl dX5_smoke_13 ?_
    refine lv_iload_n hx hb dX5_smoke_16 rfl (lv_at hl 1 rfl) ?_
    obtain ⟨r17, h17r, hf⟩ := o_bs hf
    refine k_goi (va_runV (As := [.int a1]) (rest := []) ⟨hx, hb, hml, hown, hts⟩ (zX0_has l D cy sa q rest H.size r1.2 a1 r17 h17r) (cwV 1 hts (gB_V wB405 wB406 wB407 wB20 wB408) rfl rfl rfl (by decide +kernel) ⟨Nat.le_of_ble_eq_true rfl, Nat.le_of_ble_eq_true rfl⟩) ⟨kP.blind, k_recv hE hP (ci := 0) (q0 := 10) rfl rfl, k_pre hP hD hS hE hA⟩ rfl rfl hl.1 rfl (lv_room (Nat.le_of_ble_eq_true rfl)) dX5_smoke_17 ⟨Nat.zero_le _, Nat.zero_le _⟩) hD hS hA (fun H locs hP hD hS => ?_)
    refine lv_if_eq (tgt := 37) hx hb dX5_smoke_20 (by decide) (fun c20 => ?_) (fun c20 => ?_)
    · have hf := o_ip c20 hf
      refine lv_aload_n hx hb dX5_smoke_37 rfl (lv_at hl 0 rfl) ?_
      obtain ⟨r38, h38r, hf⟩ := o_bs hf
      refine k_goi (va_runV (As := []) (rest := []) ⟨hx, hb, hml, hown, hts⟩ (zX5_bad l D cy sa q rest H.size r1.2  r38 h38r) (cwV 0 hts (gB_V wB113 wB114 wB115 wB2 wB116) rfl rfl rfl (by decide +kernel) ⟨Nat.le_of_ble_eq_true rfl, Nat.le_of_ble_eq_true rfl⟩) ⟨kP.blind, k_recv hE hP (ci := 5) (q0 := 0) rfl rfl, k_pre hP hD hS hE hA⟩ rfl rfl hl.1 rfl (lv_room (Nat.le_of_ble_eq_true rfl)) dX5_smoke_38 ⟨Nat.zero_le _, Nat.zero_le _⟩) hD hS hA (fun H locs hP hD hS => ?_)
      obtain rfl := o_ret hf
      exact k_iret hx hb hr hP hD hS (Nat.zero_le _) (Nat.zero_le _) hlocks dX5_smoke_41
    · have hf := o_in c20 hf
      refine lv_iload_n hx hb dX5_smoke_23 rfl (lv_at hl 2 rfl) ?_
      obtain ⟨r24, h24r, hf⟩ := o_bs hf
      refine k_goi (va_runS (As := [.int a2]) (rest := []) ⟨hx, hb, hml, hown, hts⟩ (zX5_isColor l D cy sa (WX q cy r1.2 ++ rest) H.size a2  r24  h24r) (va_cwS 1 hts (gB_S wB409 wB410 wB2 wB411) rfl rfl rfl (by decide +kernel) ⟨Nat.le_of_ble_eq_true rfl, Nat.le_of_ble_eq_true rfl⟩) ⟨kP.blind, k_pre hP hD hS hE hA⟩ rfl rfl hl.1 rfl (lv_room (Nat.le_of_ble_eq_true rfl)) dX5_smoke_24 ⟨Nat.zero_le _, Nat.zero_le _⟩) hD hS hA (fun H locs hP hD hS => ?_)
      refine lv_if_eq (tgt := 37) hx hb dX5_smoke_27 (by decide) (fun c27 => ?_) (fun c27 => ?_)
      · have hf := o_ip c27 hf
        refine lv_aload_n hx hb dX5_smoke_37 rfl (lv_at hl 0 rfl) ?_
        obtain ⟨r38, h38r, hf⟩ := o_bs hf
        refine k_goi (va_runV (As := []) (rest := []) ⟨hx, hb, hml, hown, hts⟩ (zX5_bad l D cy sa q rest H.size r1.2  r38 h38r) (cwV 0 hts (gB_V wB113 wB114 wB115 wB2 wB116) rfl rfl rfl (by decide +kernel) ⟨Nat.le_of_ble_eq_true rfl, Nat.le_of_ble_eq_true rfl⟩) ⟨kP.blind, k_recv hE hP (ci := 5) (q0 := 0) rfl rfl, k_pre hP hD hS hE hA⟩ rfl rfl hl.1 rfl (lv_room (Nat.le_of_ble_eq_true rfl)) dX5_smoke_38 ⟨Nat.zero_le _, Nat.zero_le _⟩) hD hS hA (fun H locs hP hD hS => ?_)
        obtain rfl := o_ret hf
        exact k_iret hx hb hr hP hD hS (Nat.zero_le _) (Nat.zero_le _) hlocks dX5_smoke_41
      · have hf := o_in c27 hf
        refine lv_iload_n hx hb dX5_smoke_30 rfl (lv_at hl 3 rfl) ?_
        obtain ⟨r31, h31r, hf⟩ := o_bs hf
        refine k_goi (va_runS (As := [.int a3]) (rest := []) ⟨hx, hb, hml, hown, hts⟩ (zX5_isCut l D cy sa (WX q cy r1.2 ++ rest) H.size a3  r31  h31r) (va_cwS 1 hts (gB_S wB450 wB451 wB2 wB452) rfl rfl rfl (by decide +kernel) ⟨Nat.le_of_ble_eq_true rfl, Nat.le_of_ble_eq_true rfl⟩) ⟨kP.blind, k_pre hP hD hS hE hA⟩ rfl rfl hl.1 rfl (lv_room (Nat.le_of_ble_eq_true rfl)) dX5_smoke_31 ⟨Nat.zero_le _, Nat.zero_le _⟩) hD hS hA (fun H locs hP hD hS => ?_)
        refine lv_if_ne (tgt := 42) hx hb dX5_smoke_34 (by decide) (fun c34 => ?_) (fun c34 => ?_)
        · have hf := o_in c34 hf
          refine lv_aload_n hx hb dX5_smoke_42 rfl (lv_at hl 0 rfl) ?_
          refine lv_iload_n hx hb dX5_smoke_43 rfl (lv_at hl 1 rfl) ?_
          refine lv_iload_n hx hb dX5_smoke_44 rfl (lv_at hl 2 rfl) ?_
          refine lv_iload_n hx hb dX5_smoke_45 rfl (lv_at hl 3 rfl) ?_
          obtain ⟨r46, h46r, hf⟩ := o_bs hf
          refine k_goi (va_runV (As := [.int a1, .int a2, .int a3]) (rest := []) ⟨hx, hb, hml, hown, hts⟩ (zX5_smokeOf l D cy sa q rest H.size r1.2 a1 a2 a3 r46 h46r) (cwV 3 hts (gB_V wB453 wB454 wB455 wB2 wB456) rfl rfl rfl (by decide +kernel) ⟨Nat.le_of_ble_eq_true rfl, Nat.le_of_ble_eq_true rfl⟩) ⟨kP.blind, k_recv hE hP (ci := 5) (q0 := 0) rfl rfl, k_pre hP hD hS hE hA⟩ rfl rfl hl.1 rfl (lv_room (Nat.le_of_ble_eq_true rfl)) dX5_smoke_46 ⟨Nat.zero_le _, Nat.zero_le _⟩) hD hS hA (fun H locs hP hD hS => ?_)
          obtain rfl := o_ret hf
          exact k_iret hx hb hr hP hD hS (Nat.zero_le _) (Nat.zero_le _) hlocks dX5_smoke_49
        · have hf := o_ip c34 hf
          refine lv_aload_n hx hb dX5_smoke_37 rfl (lv_at hl 0 rfl) ?_
          obtain ⟨r38, h38r, hf⟩ := o_bs hf
          refine k_goi (va_runV (As := []) (rest := []) ⟨hx, hb, hml, hown, hts⟩ (zX5_bad l D cy sa q rest H.size r1.2  r38 h38r) (cwV 0 hts (gB_V wB113 wB114 wB115 wB2 wB116) rfl rfl rfl (by decide +kernel) ⟨Nat.le_of_ble_eq_true rfl, Nat.le_of_ble_eq_true rfl⟩) ⟨kP.blind, k_recv hE hP (ci := 5) (q0 := 0) rfl rfl, k_pre hP hD hS hE hA⟩ rfl rfl hl.1 rfl (lv_room (Nat.le_of_ble_eq_true rfl)) dX5_smoke_38 ⟨Nat.zero_le _, Nat.zero_le _⟩) hD hS hA (fun H locs hP hD hS => ?_)
          obtain rfl := o_ret hf
          exact k_iret hx hb hr hP hD hS (Nat.zero_le _) (Nat.zero_le _) hlocks dX5_smoke_41
  · have hf := o_in c4 hf
    refine lv_aload_n hx hb dX5_smoke_7 rfl (lv_at hl 0 rfl) ?_
    obtain ⟨r8, h8r, hf⟩ := o_bs hf
    refine k_goi (va_runV (As := []) (rest := []) ⟨hx, hb, hml, hown, hts⟩ (zX5_no l D cy sa q rest H.size r1.2  r8 h8r) (cwV 0 hts (gB_V wB320 wB321 wB322 wB2 wB323) rfl rfl rfl (by decide +kernel) ⟨Nat.le_of_ble_eq_true rfl, Nat.le_of_ble_eq_true rfl⟩) ⟨kP.blind, k_recv hE hP (ci := 5) (q0 := 0) rfl rfl, k_pre hP hD hS hE hA⟩ rfl rfl hl.1 rfl (lv_room (Nat.le_of_ble_eq_true rfl)) dX5_smoke_8 ⟨Nat.zero_le _, Nat.zero_le _⟩) hD hS hA (fun H locs hP hD hS => ?_)
    obtain rfl := o_ret hf
    exact k_iret hx hb hr hP hD hS (Nat.zero_le _) (Nat.zero_le _) hlocks dX5_smoke_11
noncomputable def mX5_status (u : KS) (a1 : Int32) : Option (Int32 × KS) :=
  if a1 < 0 then
  ((mX5_bad u).bind fun r14 =>
  some ((-1), r14.2))
  else
  (if a1 < 3 then
  (gd (inb a1 3) (some (((gR u 0) (a1.toNatClampNeg)), u)))
  else
  ((mX5_bad u).bind fun r14 =>
  some ((-1), r14.2)))
abbrev rmX5_status : Room := { frames := 3, cells := 0, slots := 0, locals := 64 }
set_option maxRecDepth 100000 in
set_option maxHeartbeats 4000000 in
theorem zX5_status (l : Launch) (D : va_G) (cy : Nat → ClassId) (sa : Nat → Nat) (q : Nat → Nat) (rest : va_W) (sz : Nat) (u : KS) (a1 : Int32) (res : Int32 × KS) (hf : mX5_status u a1 = some res) : kMi l yX5_status (wsK yX5_status cX5_status 2 (some .int)) rmX5_status D cy sa (WX q cy u ++ rest) sz [.ref (q 0), .int a1] res.1 (WX q cy res.2 ++ rest) 0 0 := by
  refine kM_of (Qc := fun A => kQi D A res.1 (WX q cy res.2 ++ rest)) (cc := cX5_status) (maxL := 2) (ret := (some .int)) (by decide) (Nat.le_of_ble_eq_true rfl) ?_
  intro p e s m below meth c A hx hb hml hr hts hown hlocks hin hA hP hD hS hE hsz ls hl
  have hown : s.vm.findClass RX5 = some m.cls := hown
  obtain ⟨H, hH0⟩ : ∃ H, H = s.heap := ⟨_, rfl⟩
  obtain ⟨locs, hlocs0⟩ : ∃ locs : List Loc, locs = [] := ⟨_, rfl⟩
  have hP : va_P D vwCl (WX q cy u ++ rest) H := by rw [hH0]; exact hP
  have hS : va_S A s.heap H locs := by rw [hH0, hlocs0]; exact hS
  have hl : lv_has ls 2 [(0, .ref (q 0)), (1, .int a1)] := hl
  suffices hgoal : W p l e rmX5_status s m ([.ref (q 0), .int a1] : List Value).toArray below meth c H locs 0 0 (MQ below (kQi D A res.1 (WX q cy res.2 ++ rest)) ([.ref (q 0), .int a1] : List Value).toArray s 0 0 A) (F0 m 0 ls []) by rw [hH0, hlocs0] at hgoal; exact hgoal
  clear hH0 hlocs0
  unfold mX5_status at hf
  refine lv_iload_n hx hb dX5_status_0 rfl (lv_at hl 1 rfl) ?_
  refine lv_if_lt (tgt := 13) hx hb dX5_status_1 (by decide) (fun c1 => ?_) (fun c1 => ?_)
  · have hf := o_ip c1 hf
    refine lv_aload_n hx hb dX5_status_13 rfl (lv_at hl 0 rfl) ?_
    obtain ⟨r14, h14r, hf⟩ := o_bs hf
    refine k_goi (va_runV (As := []) (rest := []) ⟨hx, hb, hml, hown, hts⟩ (zX5_bad l D cy sa q rest H.size u  r14 h14r) (cwV 0 hts (gB_V wB113 wB114 wB115 wB2 wB116) rfl rfl rfl (by decide +kernel) ⟨Nat.le_of_ble_eq_true rfl, Nat.le_of_ble_eq_true rfl⟩) ⟨kP.blind, k_recv hE hP (ci := 5) (q0 := 0) rfl rfl, k_pre hP hD hS hE hA⟩ rfl rfl hl.1 rfl (lv_room (Nat.le_of_ble_eq_true rfl)) dX5_status_14 ⟨Nat.zero_le _, Nat.zero_le _⟩) hD hS hA (fun H locs hP hD hS => ?_)
    refine lv_pop hx hb dX5_status_17 rfl ?_
    refine lv_iconst (v := (-1)) hx hb dX5_status_18 (by decide) ?_
    obtain rfl := o_ret hf
    exact k_iret hx hb hr hP hD hS (Nat.zero_le _) (Nat.zero_le _) hlocks dX5_status_19
  · have hf := o_in c1 hf
    refine lv_iload_n hx hb dX5_status_4 rfl (lv_at hl 1 rfl) ?_
    refine lv_aload_n hx hb dX5_status_5 rfl (lv_at hl 0 rfl) ?_
    refine va_get (ci := 5) (v := .ref (q 2)) (C := RX5) (T := TX5) (N := 9) hx hb hts inlX5 hown hE.1 hP 0 rfl rfl 6 (by decide) (hts _ wB35) (fun _ h9 => h9) rfl dX5_status_6 ?_
    refine va_alen (v := 3) hx hb hE.1 hP 2 0 rfl rfl rfl dX5_status_9 ?_
    refine lv_icmp_lt (tgt := 20) hx hb dX5_status_10 (by decide) (fun c10 => ?_) (fun c10 => ?_)
    · have hf := o_ip c10 hf
      refine lv_aload_n hx hb dX5_status_20 rfl (lv_at hl 0 rfl) ?_
      refine va_get (ci := 5) (v := .ref (q 2)) (C := RX5) (T := TX5) (N := 9) hx hb hts inlX5 hown hE.1 hP 0 rfl rfl 6 (by decide) (hts _ wB35) (fun _ h9 => h9) rfl dX5_status_21 ?_
      refine lv_iload_n hx hb dX5_status_24 rfl (lv_at hl 1 rfl) ?_
      obtain ⟨hg25, hf⟩ := gd_s hf
      refine va_iald (f := (gR u 0)) hx hb hE.1 hP 2 0 rfl rfl hg25 dX5_status_25 ?_
      obtain rfl := o_ret hf
      exact k_iret hx hb hr hP hD hS (Nat.zero_le _) (Nat.zero_le _) hlocks dX5_status_26
    · have hf := o_in c10 hf
      refine lv_aload_n hx hb dX5_status_13 rfl (lv_at hl 0 rfl) ?_
      obtain ⟨r14, h14r, hf⟩ := o_bs hf
      refine k_goi (va_runV (As := []) (rest := []) ⟨hx, hb, hml, hown, hts⟩ (zX5_bad l D cy sa q rest H.size u  r14 h14r) (cwV 0 hts (gB_V wB113 wB114 wB115 wB2 wB116) rfl rfl rfl (by decide +kernel) ⟨Nat.le_of_ble_eq_true rfl, Nat.le_of_ble_eq_true rfl⟩) ⟨kP.blind, k_recv hE hP (ci := 5) (q0 := 0) rfl rfl, k_pre hP hD hS hE hA⟩ rfl rfl hl.1 rfl (lv_room (Nat.le_of_ble_eq_true rfl)) dX5_status_14 ⟨Nat.zero_le _, Nat.zero_le _⟩) hD hS hA (fun H locs hP hD hS => ?_)
      refine lv_pop hx hb dX5_status_17 rfl ?_
      refine lv_iconst (v := (-1)) hx hb dX5_status_18 (by decide) ?_
      obtain rfl := o_ret hf
      exact k_iret hx hb hr hP hD hS (Nat.zero_le _) (Nat.zero_le _) hlocks dX5_status_19
noncomputable def mX5_takes_s26 (u : KS) (c1 : Int32) (s26 : Int32 × Int32 × Int32 × Int32) : Option ((Int32) ⊕ (Int32 × Int32 × Int32 × Int32)) :=
  if (((1 : Int32) <<< ((gI u 4) &&& 31)) : Int32) ≤ s26.2.2.2 then
  (some (.inl s26.1))
  else
  ((mX3_costOf u s26.2.2.2).bind fun r46 =>
  (mX3_worthOf u s26.2.2.2).bind fun r57 =>
  if c1 < r46 then
  (some (.inr (s26.1, s26.2.1, s26.2.2.1, (s26.2.2.2 + 1))))
  else
  (if s26.2.1 < r57 then
  (some (.inr (s26.2.2.2, r57, r46, (s26.2.2.2 + 1))))
  else
  (if r57 = s26.2.1 then
  (if s26.2.2.1 ≤ r46 then
  (some (.inr (s26.1, s26.2.1, s26.2.2.1, (s26.2.2.2 + 1))))
  else
  (some (.inr (s26.2.2.2, r57, r46, (s26.2.2.2 + 1)))))
  else
  (some (.inr (s26.1, s26.2.1, s26.2.2.1, (s26.2.2.2 + 1)))))))
noncomputable def mX5_takes (u : KS) (a1 : Int32) : Option (Int32 × KS) :=
  if a1 < 0 then
  ((mX5_bad u).bind fun r12 =>
  some (r12.1, r12.2))
  else
  (if a1 ≤ 999 then
  ((lpF (mX5_takes_s26 u a1) (0, 0, 0, 1)).bind fun e26 =>
  some (e26, u))
  else
  ((mX5_bad u).bind fun r12 =>
  some (r12.1, r12.2)))
abbrev rmX5_takes : Room := { frames := 3, cells := 0, slots := 0, locals := 64 }
set_option maxRecDepth 100000 in
set_option maxHeartbeats 4000000 in
theorem zX5_takes (l : Launch) (D : va_G) (cy : Nat → ClassId) (sa : Nat → Nat) (q : Nat → Nat) (rest : va_W) (sz : Nat) (u : KS) (a1 : Int32) (res : Int32 × KS) (hf : mX5_takes u a1 = some res) : kMi l yX5_takes (wsK yX5_takes cX5_takes 8 (some .int)) rmX5_takes D cy sa (WX q cy u ++ rest) sz [.ref (q 0), .int a1] res.1 (WX q cy res.2 ++ rest) 0 0 := by
  refine kM_of (Qc := fun A => kQi D A res.1 (WX q cy res.2 ++ rest)) (cc := cX5_takes) (maxL := 8) (ret := (some .int)) (by decide) (Nat.le_of_ble_eq_true rfl) ?_
  intro p e s m below meth c A hx hb hml hr hts hown hlocks hin hA hP hD hS hE hsz ls hl
  have hown : s.vm.findClass RX5 = some m.cls := hown
  obtain ⟨H, hH0⟩ : ∃ H, H = s.heap := ⟨_, rfl⟩
  obtain ⟨locs, hlocs0⟩ : ∃ locs : List Loc, locs = [] := ⟨_, rfl⟩
  have hP : va_P D vwCl (WX q cy u ++ rest) H := by rw [hH0]; exact hP
  have hS : va_S A s.heap H locs := by rw [hH0, hlocs0]; exact hS
  have hl : lv_has ls 8 [(0, .ref (q 0)), (1, .int a1)] := hl
  suffices hgoal : W p l e rmX5_takes s m ([.ref (q 0), .int a1] : List Value).toArray below meth c H locs 0 0 (MQ below (kQi D A res.1 (WX q cy res.2 ++ rest)) ([.ref (q 0), .int a1] : List Value).toArray s 0 0 A) (F0 m 0 ls []) by rw [hH0, hlocs0] at hgoal; exact hgoal
  clear hH0 hlocs0
  unfold mX5_takes at hf
  refine lv_iload_n hx hb dX5_takes_0 rfl (lv_at hl 1 rfl) ?_
  refine lv_if_lt (tgt := 11) hx hb dX5_takes_1 (by decide) (fun c1 => ?_) (fun c1 => ?_)
  · have hf := o_ip c1 hf
    refine lv_aload_n hx hb dX5_takes_11 rfl (lv_at hl 0 rfl) ?_
    obtain ⟨r12, h12r, hf⟩ := o_bs hf
    refine k_goi (va_runV (As := []) (rest := []) ⟨hx, hb, hml, hown, hts⟩ (zX5_bad l D cy sa q rest H.size u  r12 h12r) (cwV 0 hts (gB_V wB113 wB114 wB115 wB2 wB116) rfl rfl rfl (by decide +kernel) ⟨Nat.le_of_ble_eq_true rfl, Nat.le_of_ble_eq_true rfl⟩) ⟨kP.blind, k_recv hE hP (ci := 5) (q0 := 0) rfl rfl, k_pre hP hD hS hE hA⟩ rfl rfl hl.1 rfl (lv_room (Nat.le_of_ble_eq_true rfl)) dX5_takes_12 ⟨Nat.zero_le _, Nat.zero_le _⟩) hD hS hA (fun H locs hP hD hS => ?_)
    obtain rfl := o_ret hf
    exact k_iret hx hb hr hP hD hS (Nat.zero_le _) (Nat.zero_le _) hlocks dX5_takes_15
  · have hf := o_in c1 hf
    refine lv_iload_n hx hb dX5_takes_4 rfl (lv_at hl 1 rfl) ?_
    refine lv_sipush (v := 999) hx hb dX5_takes_5 (by decide) ?_
    refine lv_icmp_le (tgt := 16) hx hb dX5_takes_8 (by decide) (fun c8 => ?_) (fun c8 => ?_)
    · have hf := o_ip c8 hf
      refine lv_iconst (v := 0) hx hb dX5_takes_16 (by decide) ?_
      refine lv_istore_n (lv' := [(2, .int 0), (0, .ref (q 0)), (1, .int a1)]) hx hb dX5_takes_17 rfl hl (by decide) rfl (fun ls hl => ?_)
      refine lv_iconst (v := 0) hx hb dX5_takes_18 (by decide) ?_
      refine lv_istore_n (lv' := [(3, .int 0), (2, .int 0), (0, .ref (q 0)), (1, .int a1)]) hx hb dX5_takes_19 rfl hl (by decide) rfl (fun ls hl => ?_)
      refine lv_iconst (v := 0) hx hb dX5_takes_20 (by decide) ?_
      refine lv_istore (lv' := [(4, .int 0), (3, .int 0), (2, .int 0), (0, .ref (q 0)), (1, .int a1)]) hx hb dX5_takes_21 hl (by decide) rfl (fun ls hl => ?_)
      refine lv_iconst (v := 1) hx hb dX5_takes_23 (by decide) ?_
      refine lv_istore (lv' := [(5, .int 1), (4, .int 0), (3, .int 0), (2, .int 0), (0, .ref (q 0)), (1, .int a1)]) hx hb dX5_takes_24 hl (by decide) rfl (fun ls hl => ?_)
      have L26 : ∀ (n26v : Nat) (s26 : Int32 × Int32 × Int32 × Int32) (e26 : Int32), lpO (mX5_takes_s26 u a1) n26v s26 = some e26 → ∀ (H : Heap) (locs : List Loc) (ls : Array Slot), va_P D vwCl (WX q cy u ++ rest) H → va_D A (WX q cy u ++ rest) → va_S A s.heap H locs → lv_has ls 8 [(0, .ref (q 0)), (1, .int a1), (2, .int s26.1), (3, .int s26.2.1), (4, .int s26.2.2.1), (5, .int s26.2.2.2)] → (∀ (H : Heap) (locs : List Loc) (ls : Array Slot), va_P D vwCl (WX q cy u ++ rest) H → va_D A (WX q cy u ++ rest) → va_S A s.heap H locs → lv_has ls 8 [(2, .int e26)] → W p l e rmX5_takes s m ([.ref (q 0), .int a1] : List Value).toArray below meth c H locs 0 0 (MQ below (kQi D A res.1 (WX q cy res.2 ++ rest)) ([.ref (q 0), .int a1] : List Value).toArray s 0 0 A) (F0 m 103 ls [])) → W p l e rmX5_takes s m ([.ref (q 0), .int a1] : List Value).toArray below meth c H locs 0 0 (MQ below (kQi D A res.1 (WX q cy res.2 ++ rest)) ([.ref (q 0), .int a1] : List Value).toArray s 0 0 A) (F0 m 26 ls []) := by
        intro n26v
        induction n26v with
        | zero => intro s26 e26 h; exact (lpO_z h).elim
        | succ n26v ih26 =>
          intro s26 e26 h26z H locs ls hP hD hS hl K26_0
          obtain ⟨x26, hf, h26z⟩ := lpO_s h26z
          unfold mX5_takes_s26 at hf
          refine lv_iload hx hb dX5_takes_26 (lv_at hl 5 rfl) ?_
          refine lv_iconst (v := 1) hx hb dX5_takes_28 (by decide) ?_
          refine lv_aload_n hx hb dX5_takes_29 rfl (lv_at hl 0 rfl) ?_
          refine va_get (ci := 5) (v := .ref (q 3)) (C := RX5) (T := TX5) (N := 9) hx hb hts inlX5 hown hE.1 hP 0 rfl rfl 0 (by decide) (hts _ wB16) (fun _ h9 => h9) rfl dX5_takes_30 ?_
          refine va_get (ci := 3) (v := .int (gI u 4)) (C := RX3) (T := TX3) (N := 9) hx hb hts inlX3 hown hE.1 hP 3 rfl rfl 8 (by decide) (hts _ wB789) (fun _ h9 => h9) rfl dX5_takes_33 ?_
          refine lv_ishl hx hb dX5_takes_36 ?_
          refine lv_icmp_ge (tgt := 103) hx hb dX5_takes_37 (by decide) (fun c37 => ?_) (fun c37 => ?_)
          · have hf := o_ip c37 hf
            obtain rfl := o_ret hf
            obtain rfl := lpK_l h26z
            exact K26_0 _ _ _ hP hD hS (lv_sub hl [2] rfl)
          · have hf := o_in c37 hf
            refine lv_aload_n hx hb dX5_takes_40 rfl (lv_at hl 0 rfl) ?_
            refine va_get (ci := 5) (v := .ref (q 3)) (C := RX5) (T := TX5) (N := 9) hx hb hts inlX5 hown hE.1 hP 0 rfl rfl 0 (by decide) (hts _ wB16) (fun _ h9 => h9) rfl dX5_takes_41 ?_
            refine lv_iload hx hb dX5_takes_44 (lv_at hl 5 rfl) ?_
            obtain ⟨r46, h46r, hf⟩ := o_bs hf
            refine k_goi (va_runV (As := [.int s26.2.2.2]) (rest := []) ⟨hx, hb, hml, hown, hts⟩ (zX3_costOf l D cy sa q rest H.size u s26.2.2.2 r46 h46r) (cwV 1 hts (gB_V wB799 wB800 wB801 wB15 wB802) rfl rfl rfl (by decide +kernel) ⟨Nat.le_of_ble_eq_true rfl, Nat.le_of_ble_eq_true rfl⟩) ⟨kP.blind, k_recv hE hP (ci := 3) (q0 := 3) rfl rfl, k_pre hP hD hS hE hA⟩ rfl rfl hl.1 rfl (lv_room (Nat.le_of_ble_eq_true rfl)) dX5_takes_46 ⟨Nat.zero_le _, Nat.zero_le _⟩) hD hS hA (fun H locs hP hD hS => ?_)
            refine lv_istore (lv' := [(6, .int r46), (0, .ref (q 0)), (1, .int a1), (2, .int s26.1), (3, .int s26.2.1), (4, .int s26.2.2.1), (5, .int s26.2.2.2)]) hx hb dX5_takes_49 hl (by decide) rfl (fun ls hl => ?_)
            refine lv_aload_n hx hb dX5_takes_51 rfl (lv_at hl 1 rfl) ?_
            refine va_get (ci := 5) (v := .ref (q 3)) (C := RX5) (T := TX5) (N := 9) hx hb hts inlX5 hown hE.1 hP 0 rfl rfl 0 (by decide) (hts _ wB16) (fun _ h9 => h9) rfl dX5_takes_52 ?_
            refine lv_iload hx hb dX5_takes_55 (lv_at hl 6 rfl) ?_
            obtain ⟨r57, h57r, hf⟩ := o_bs hf
            refine k_goi (va_runV (As := [.int s26.2.2.2]) (rest := []) ⟨hx, hb, hml, hown, hts⟩ (zX3_worthOf l D cy sa q rest H.size u s26.2.2.2 r57 h57r) (cwV 1 hts (gB_V wB804 wB805 wB806 wB15 wB807) rfl rfl rfl (by decide +kernel) ⟨Nat.le_of_ble_eq_true rfl, Nat.le_of_ble_eq_true rfl⟩) ⟨kP.blind, k_recv hE hP (ci := 3) (q0 := 3) rfl rfl, k_pre hP hD hS hE hA⟩ rfl rfl hl.1 rfl (lv_room (Nat.le_of_ble_eq_true rfl)) dX5_takes_57 ⟨Nat.zero_le _, Nat.zero_le _⟩) hD hS hA (fun H locs hP hD hS => ?_)
            refine lv_istore (lv' := [(7, .int r57), (6, .int r46), (0, .ref (q 0)), (1, .int a1), (2, .int s26.1), (3, .int s26.2.1), (4, .int s26.2.2.1), (5, .int s26.2.2.2)]) hx hb dX5_takes_60 hl (by decide) rfl (fun ls hl => ?_)
            refine lv_iload hx hb dX5_takes_62 (lv_at hl 1 rfl) ?_
            refine lv_iload_n hx hb dX5_takes_64 rfl (lv_at hl 3 rfl) ?_
            refine lv_icmp_gt (tgt := 97) hx hb dX5_takes_65 (by decide) (fun c65 => ?_) (fun c65 => ?_)
            · have hf := o_ip c65 hf
              refine lv_iinc (v := (s26.2.2.2 + 1)) (lv' := [(5, .int (s26.2.2.2 + 1)), (7, .int r57), (6, .int r46), (0, .ref (q 0)), (1, .int a1), (2, .int s26.1), (3, .int s26.2.1), (4, .int s26.2.2.1)]) hx hb dX5_takes_97 hl (k := 7) rfl (by rfl) (by decide) rfl (fun ls hl => ?_)
              refine lv_goto (tgt := 26) hx hb dX5_takes_100 (by decide) ?_
              obtain rfl := o_ret hf
              exact ih26 _ _ (lpK_r h26z) _ _ _ hP hD hS (lv_sub hl [3, 4, 5, 6, 7, 0] rfl) K26_0
            · have hf := o_in c65 hf
              refine lv_iload hx hb dX5_takes_68 (lv_at hl 0 rfl) ?_
              refine lv_iload_n hx hb dX5_takes_70 rfl (lv_at hl 5 rfl) ?_
              refine lv_icmp_gt (tgt := 87) hx hb dX5_takes_71 (by decide) (fun c71 => ?_) (fun c71 => ?_)
              · have hf := o_ip c71 hf
                refine lv_iload hx hb dX5_takes_87 (lv_at hl 7 rfl) ?_
                refine lv_istore_n (lv' := [(2, .int s26.2.2.2), (7, .int r57), (6, .int r46), (0, .ref (q 0)), (1, .int a1), (3, .int s26.2.1), (4, .int s26.2.2.1), (5, .int s26.2.2.2)]) hx hb dX5_takes_89 rfl hl (by decide) rfl (fun ls hl => ?_)
                refine lv_iload hx hb dX5_takes_90 (lv_at hl 1 rfl) ?_
                refine lv_istore_n (lv' := [(3, .int r57), (2, .int s26.2.2.2), (7, .int r57), (6, .int r46), (0, .ref (q 0)), (1, .int a1), (4, .int s26.2.2.1), (5, .int s26.2.2.2)]) hx hb dX5_takes_92 rfl hl (by decide) rfl (fun ls hl => ?_)
                refine lv_iload hx hb dX5_takes_93 (lv_at hl 3 rfl) ?_
                refine lv_istore (lv' := [(4, .int r46), (3, .int r57), (2, .int s26.2.2.2), (7, .int r57), (6, .int r46), (0, .ref (q 0)), (1, .int a1), (5, .int s26.2.2.2)]) hx hb dX5_takes_95 hl (by decide) rfl (fun ls hl => ?_)
                refine lv_iinc (v := (s26.2.2.2 + 1)) (lv' := [(5, .int (s26.2.2.2 + 1)), (4, .int r46), (3, .int r57), (2, .int s26.2.2.2), (7, .int r57), (6, .int r46), (0, .ref (q 0)), (1, .int a1)]) hx hb dX5_takes_97 hl (k := 7) rfl (by rfl) (by decide) rfl (fun ls hl => ?_)
                refine lv_goto (tgt := 26) hx hb dX5_takes_100 (by decide) ?_
                obtain rfl := o_ret hf
                exact ih26 _ _ (lpK_r h26z) _ _ _ hP hD hS (lv_sub hl [6, 7, 3, 2, 1, 0] rfl) K26_0
              · have hf := o_in c71 hf
                refine lv_iload hx hb dX5_takes_74 (lv_at hl 0 rfl) ?_
                refine lv_iload_n hx hb dX5_takes_76 rfl (lv_at hl 5 rfl) ?_
                refine lv_icmp_ne (tgt := 97) hx hb dX5_takes_77 (by decide) (fun c77 => ?_) (fun c77 => ?_)
                · have hf := o_in c77 hf
                  refine lv_iinc (v := (s26.2.2.2 + 1)) (lv' := [(5, .int (s26.2.2.2 + 1)), (7, .int r57), (6, .int r46), (0, .ref (q 0)), (1, .int a1), (2, .int s26.1), (3, .int s26.2.1), (4, .int s26.2.2.1)]) hx hb dX5_takes_97 hl (k := 7) rfl (by rfl) (by decide) rfl (fun ls hl => ?_)
                  refine lv_goto (tgt := 26) hx hb dX5_takes_100 (by decide) ?_
                  obtain rfl := o_ret hf
                  exact ih26 _ _ (lpK_r h26z) _ _ _ hP hD hS (lv_sub hl [3, 4, 5, 6, 7, 0] rfl) K26_0
                · have hf := o_ip c77 hf
                  refine lv_iload hx hb dX5_takes_80 (lv_at hl 1 rfl) ?_
                  refine lv_iload hx hb dX5_takes_82 (lv_at hl 6 rfl) ?_
                  refine lv_icmp_ge (tgt := 97) hx hb dX5_takes_84 (by decide) (fun c84 => ?_) (fun c84 => ?_)
                  · have hf := o_ip c84 hf
                    refine lv_iinc (v := (s26.2.2.2 + 1)) (lv' := [(5, .int (s26.2.2.2 + 1)), (7, .int r57), (6, .int r46), (0, .ref (q 0)), (1, .int a1), (2, .int s26.1), (3, .int s26.2.1), (4, .int s26.2.2.1)]) hx hb dX5_takes_97 hl (k := 7) rfl (by rfl) (by decide) rfl (fun ls hl => ?_)
                    refine lv_goto (tgt := 26) hx hb dX5_takes_100 (by decide) ?_
                    obtain rfl := o_ret hf
                    exact ih26 _ _ (lpK_r h26z) _ _ _ hP hD hS (lv_sub hl [3, 4, 5, 6, 7, 0] rfl) K26_0
                  · have hf := o_in c84 hf
                    refine lv_iload hx hb dX5_takes_87 (lv_at hl 7 rfl) ?_
                    refine lv_istore_n (lv' := [(2, .int s26.2.2.2), (7, .int r57), (6, .int r46), (0, .ref (q 0)), (1, .int a1), (3, .int s26.2.1), (4, .int s26.2.2.1), (5, .int s26.2.2.2)]) hx hb dX5_takes_89 rfl hl (by decide) rfl (fun ls hl => ?_)
                    refine lv_iload hx hb dX5_takes_90 (lv_at hl 1 rfl) ?_
                    refine lv_istore_n (lv' := [(3, .int r57), (2, .int s26.2.2.2), (7, .int r57), (6, .int r46), (0, .ref (q 0)), (1, .int a1), (4, .int s26.2.2.1), (5, .int s26.2.2.2)]) hx hb dX5_takes_92 rfl hl (by decide) rfl (fun ls hl => ?_)
                    refine lv_iload hx hb dX5_takes_93 (lv_at hl 3 rfl) ?_
                    refine lv_istore (lv' := [(4, .int r46), (3, .int r57), (2, .int s26.2.2.2), (7, .int r57), (6, .int r46), (0, .ref (q 0)), (1, .int a1), (5, .int s26.2.2.2)]) hx hb dX5_takes_95 hl (by decide) rfl (fun ls hl => ?_)
                    refine lv_iinc (v := (s26.2.2.2 + 1)) (lv' := [(5, .int (s26.2.2.2 + 1)), (4, .int r46), (3, .int r57), (2, .int s26.2.2.2), (7, .int r57), (6, .int r46), (0, .ref (q 0)), (1, .int a1)]) hx hb dX5_takes_97 hl (k := 7) rfl (by rfl) (by decide) rfl (fun ls hl => ?_)
                    refine lv_goto (tgt := 26) hx hb dX5_takes_100 (by decide) ?_
                    obtain rfl := o_ret hf
                    exact ih26 _ _ (lpK_r h26z) _ _ _ hP hD hS (lv_sub hl [6, 7, 3, 2, 1, 0] rfl) K26_0
      obtain ⟨e26, h26q, hf⟩ := o_bs hf
      obtain ⟨n26v, h26q⟩ := lpF_ex h26q
      refine L26 n26v _ e26 h26q _ _ _ hP hD hS (lv_sub hl [4, 5, 3, 2, 1, 0] rfl) ?_
      intro H locs ls hP hD hS hl
      refine lv_iload_n hx hb dX5_takes_103 rfl (lv_at hl 0 rfl) ?_
      obtain rfl := o_ret hf
      exact k_iret hx hb hr hP hD hS (Nat.zero_le _) (Nat.zero_le _) hlocks dX5_takes_104
    · have hf := o_in c8 hf
      refine lv_aload_n hx hb dX5_takes_11 rfl (lv_at hl 0 rfl) ?_
      obtain ⟨r12, h12r, hf⟩ := o_bs hf
      refine k_goi (va_runV (As := []) (rest := []) ⟨hx, hb, hml, hown, hts⟩ (zX5_bad l D cy sa q rest H.size u  r12 h12r) (cwV 0 hts (gB_V wB113 wB114 wB115 wB2 wB116) rfl rfl rfl (by decide +kernel) ⟨Nat.le_of_ble_eq_true rfl, Nat.le_of_ble_eq_true rfl⟩) ⟨kP.blind, k_recv hE hP (ci := 5) (q0 := 0) rfl rfl, k_pre hP hD hS hE hA⟩ rfl rfl hl.1 rfl (lv_room (Nat.le_of_ble_eq_true rfl)) dX5_takes_12 ⟨Nat.zero_le _, Nat.zero_le _⟩) hD hS hA (fun H locs hP hD hS => ?_)
      obtain rfl := o_ret hf
      exact k_iret hx hb hr hP hD hS (Nat.zero_le _) (Nat.zero_le _) hlocks dX5_takes_15
noncomputable def mX5_two (u : KS) : Option (Int32 × KS) :=
  (mX5_noGuesses u).bind fun r1 =>
  if r1.1 = 0 then
  ((mX2_ofTwo r1.2).bind fun r20 =>
  (mX1_setShare r1.2 r20 (gL r1.2 0)).bind fun r30 =>
  some (1, r30))
  else
  ((mX5_no r1.2).bind fun r8 =>
  some (r8.1, r8.2))
abbrev rmX5_two : Room := { frames := 10, cells := 0, slots := 0, locals := 217 }
set_option maxRecDepth 100000 in
set_option maxHeartbeats 4000000 in
theorem zX5_two (l : Launch) (D : va_G) (cy : Nat → ClassId) (sa : Nat → Nat) (q : Nat → Nat) (rest : va_W) (sz : Nat) (u : KS) (res : Int32 × KS) (hf : mX5_two u = some res) : kMi l yX5_two (wsK yX5_two cX5_two 1 (some .int)) rmX5_two D cy sa (WX q cy u ++ rest) sz [.ref (q 0)] res.1 (WX q cy res.2 ++ rest) 0 0 := by
  refine kM_of (Qc := fun A => kQi D A res.1 (WX q cy res.2 ++ rest)) (cc := cX5_two) (maxL := 1) (ret := (some .int)) (by decide) (Nat.le_of_ble_eq_true rfl) ?_
  intro p e s m below meth c A hx hb hml hr hts hown hlocks hin hA hP hD hS hE hsz ls hl
  have hown : s.vm.findClass RX5 = some m.cls := hown
  obtain ⟨H, hH0⟩ : ∃ H, H = s.heap := ⟨_, rfl⟩
  obtain ⟨locs, hlocs0⟩ : ∃ locs : List Loc, locs = [] := ⟨_, rfl⟩
  have hP : va_P D vwCl (WX q cy u ++ rest) H := by rw [hH0]; exact hP
  have hS : va_S A s.heap H locs := by rw [hH0, hlocs0]; exact hS
  have hl : lv_has ls 1 [(0, .ref (q 0))] := hl
  suffices hgoal : W p l e rmX5_two s m ([.ref (q 0)] : List Value).toArray below meth c H locs 0 0 (MQ below (kQi D A res.1 (WX q cy res.2 ++ rest)) ([.ref (q 0)] : List Value).toArray s 0 0 A) (F0 m 0 ls []) by rw [hH0, hlocs0] at hgoal; exact hgoal
  clear hH0 hlocs0
  unfold mX5_two at hf
  refine lv_aload_n hx hb dX5_two_0 rfl (lv_at hl 0 rfl) ?_
  obtain ⟨r1, h1r, hf⟩ := o_bs hf
  refine k_goi (va_runV (As := []) (rest := []) ⟨hx, hb, hml, hown, hts⟩ (zX5_noGuesses l D cy sa q rest H.size u  r1 h1r) (cwV 0 hts (gB_V wB499 wB500 wB501 wB2 wB502) rfl rfl rfl (by decide +kernel) ⟨Nat.le_of_ble_eq_true rfl, Nat.le_of_ble_eq_true rfl⟩) ⟨kP.blind, k_recv hE hP (ci := 5) (q0 := 0) rfl rfl, k_pre hP hD hS hE hA⟩ rfl rfl hl.1 rfl (lv_room (Nat.le_of_ble_eq_true rfl)) dX5_two_1 ⟨Nat.zero_le _, Nat.zero_le _⟩) hD hS hA (fun H locs hP hD hS => ?_)
  refine lv_if_eq (tgt := 12) hx hb dX5_two_4 (by decide) (fun c4 => ?_) (fun c4 => ?_)
  · have hf := o_ip c4 hf
    refine lv_aload_n hx hb dX5_two_12 rfl (lv_at hl 0 rfl) ?_
    refine va_get (ci := 5) (v := .ref (q 21)) (C := RX5) (T := TX5) (N := 9) hx hb hts inlX5 hown hE.1 hP 0 rfl rfl 5 (by decide) (hts _ wB33) (fun _ h9 => h9) rfl dX5_two_13 ?_
    refine lv_aload_n hx hb dX5_two_16 rfl (lv_at hl 0 rfl) ?_
    refine va_get (ci := 5) (v := .ref (q 15)) (C := RX5) (T := TX5) (N := 9) hx hb hts inlX5 hown hE.1 hP 0 rfl rfl 3 (by decide) (hts _ wB25) (fun _ h9 => h9) rfl dX5_two_17 ?_
    obtain ⟨r20, h20r, hf⟩ := o_bs hf
    refine k_gol (va_runV (As := []) (rest := [.ref (q 21)]) ⟨hx, hb, hml, hown, hts⟩ (zX2_ofTwo l D cy sa q rest H.size r1.2  r20 h20r) (cwV 0 hts (gB_V wB618 wB619 wB620 wB24 wB621) rfl rfl rfl (by decide +kernel) ⟨Nat.le_of_ble_eq_true rfl, Nat.le_of_ble_eq_true rfl⟩) ⟨kP.blind, k_recv hE hP (ci := 2) (q0 := 15) rfl rfl, k_pre hP hD hS hE hA⟩ rfl rfl hl.1 rfl (lv_room (Nat.le_of_ble_eq_true rfl)) dX5_two_20 ⟨Nat.zero_le _, Nat.zero_le _⟩) hD hS hA (fun H locs hP hD hS => ?_)
    refine lv_aload_n hx hb dX5_two_23 rfl (lv_at hl 0 rfl) ?_
    refine va_get (ci := 5) (v := .ref (q 15)) (C := RX5) (T := TX5) (N := 9) hx hb hts inlX5 hown hE.1 hP 0 rfl rfl 3 (by decide) (hts _ wB25) (fun _ h9 => h9) rfl dX5_two_24 ?_
    refine va_get (ci := 2) (v := .long (gL r1.2 0)) (C := RX2) (T := TX2) (N := 4) hx hb hts inlX2 hown hE.1 hP 15 rfl rfl 0 (by decide) (hts _ wB498) (fun _ h9 => h9) rfl dX5_two_27 ?_
    obtain ⟨r30, h30r, hf⟩ := o_bs hf
    refine k_gov (va_runV (As := [.long r20, .long (gL r1.2 0)]) (rest := []) ⟨hx, hb, hml, hown, hts⟩ (zX1_setShare l D cy sa q rest H.size r1.2 r20 (gL r1.2 0) r30 h30r) (cwV 2 hts (gB_V wB546 wB547 wB548 wB32 wB549) rfl rfl rfl (by decide +kernel) ⟨Nat.le_of_ble_eq_true rfl, Nat.le_of_ble_eq_true rfl⟩) ⟨kP.blind, k_recv hE hP (ci := 1) (q0 := 21) rfl rfl, k_pre hP hD hS hE hA⟩ rfl rfl hl.1 rfl (lv_room (Nat.le_of_ble_eq_true rfl)) dX5_two_30 ⟨Nat.zero_le _, Nat.zero_le _⟩) hD hS hA (fun H locs hP hD hS => ?_)
    refine lv_iconst (v := 1) hx hb dX5_two_33 (by decide) ?_
    obtain rfl := o_ret hf
    exact k_iret hx hb hr hP hD hS (Nat.zero_le _) (Nat.zero_le _) hlocks dX5_two_34
  · have hf := o_in c4 hf
    refine lv_aload_n hx hb dX5_two_7 rfl (lv_at hl 0 rfl) ?_
    obtain ⟨r8, h8r, hf⟩ := o_bs hf
    refine k_goi (va_runV (As := []) (rest := []) ⟨hx, hb, hml, hown, hts⟩ (zX5_no l D cy sa q rest H.size r1.2  r8 h8r) (cwV 0 hts (gB_V wB320 wB321 wB322 wB2 wB323) rfl rfl rfl (by decide +kernel) ⟨Nat.le_of_ble_eq_true rfl, Nat.le_of_ble_eq_true rfl⟩) ⟨kP.blind, k_recv hE hP (ci := 5) (q0 := 0) rfl rfl, k_pre hP hD hS hE hA⟩ rfl rfl hl.1 rfl (lv_room (Nat.le_of_ble_eq_true rfl)) dX5_two_8 ⟨Nat.zero_le _, Nat.zero_le _⟩) hD hS hA (fun H locs hP hD hS => ?_)
    obtain rfl := o_ret hf
    exact k_iret hx hb hr hP hD hS (Nat.zero_le _) (Nat.zero_le _) hlocks dX5_two_11
noncomputable def mX5_type_s40 (c1 : Int64) (s40 : Int32 × KS) : Option ((KS) ⊕ (Int32 × KS)) :=
  if s40.1 < 0 then
  (some (.inl s40.2))
  else
  ((mX5_set 120 (gR s40.2 1) (gI s40.2 2) (((c1 >>> ((8 * s40.1).toInt64 &&& 63)).toInt32) &&& 255)).bind fun r71 =>
  some (.inr ((s40.1 + (-1)), (sR (sI s40.2 2 ((gI s40.2 2) + 1)) 1 r71))))
noncomputable def mX5_type (u : KS) (a1 : Int64) (a3 : Int32) : Option (Int32 × KS) :=
  if a3 < 1 then
  ((mX5_bad u).bind fun r12 =>
  some (r12.1, r12.2))
  else
  (if a3 ≤ 8 then
  (if ((gI u 2) + a3) ≤ 120 then
  ((lpF (mX5_type_s40 a1) ((a3 - 1), u)).bind fun e40 =>
  (mX5_dayChanged e40).bind fun r94 =>
  some ((gI r94 2), r94))
  else
  ((mX5_full u).bind fun r31 =>
  some (r31.1, r31.2)))
  else
  ((mX5_bad u).bind fun r12 =>
  some (r12.1, r12.2)))
abbrev rmX5_type : Room := { frames := 3, cells := 0, slots := 0, locals := 64 }
set_option maxRecDepth 100000 in
set_option maxHeartbeats 4000000 in
theorem zX5_type (l : Launch) (D : va_G) (cy : Nat → ClassId) (sa : Nat → Nat) (q : Nat → Nat) (rest : va_W) (sz : Nat) (u : KS) (a1 : Int64) (a3 : Int32) (res : Int32 × KS) (hf : mX5_type u a1 a3 = some res) : kMi l yX5_type (wsK yX5_type cX5_type 5 (some .int)) rmX5_type D cy sa (WX q cy u ++ rest) sz [.ref (q 0), .long a1, .int a3] res.1 (WX q cy res.2 ++ rest) 0 0 := by
  refine kM_of (Qc := fun A => kQi D A res.1 (WX q cy res.2 ++ rest)) (cc := cX5_type) (maxL := 5) (ret := (some .int)) (by decide) (Nat.le_of_ble_eq_true rfl) ?_
  intro p e s m below meth c A hx hb hml hr hts hown hlocks hin hA hP hD hS hE hsz ls hl
  have hown : s.vm.findClass RX5 = some m.cls := hown
  obtain ⟨H, hH0⟩ : ∃ H, H = s.heap := ⟨_, rfl⟩
  obtain ⟨locs, hlocs0⟩ : ∃ locs : List Loc, locs = [] := ⟨_, rfl⟩
  have hP : va_P D vwCl (WX q cy u ++ rest) H := by rw [hH0]; exact hP
  have hS : va_S A s.heap H locs := by rw [hH0, hlocs0]; exact hS
  have hl : lv_has ls 5 [(0, .ref (q 0)), (1, .long a1), (3, .int a3)] := hl
  suffices hgoal : W p l e rmX5_type s m ([.ref (q 0), .long a1, .int a3] : List Value).toArray below meth c H locs 0 0 (MQ below (kQi D A res.1 (WX q cy res.2 ++ rest)) ([.ref (q 0), .long a1, .int a3] : List Value).toArray s 0 0 A) (F0 m 0 ls []) by rw [hH0, hlocs0] at hgoal; exact hgoal
  clear hH0 hlocs0
  unfold mX5_type at hf
  refine lv_iload_n hx hb dX5_type_0 rfl (lv_at hl 2 rfl) ?_
  refine lv_iconst (v := 1) hx hb dX5_type_1 (by decide) ?_
  refine lv_icmp_lt (tgt := 11) hx hb dX5_type_2 (by decide) (fun c2 => ?_) (fun c2 => ?_)
  · have hf := o_ip c2 hf
    refine lv_aload_n hx hb dX5_type_11 rfl (lv_at hl 0 rfl) ?_
    obtain ⟨r12, h12r, hf⟩ := o_bs hf
    refine k_goi (va_runV (As := []) (rest := []) ⟨hx, hb, hml, hown, hts⟩ (zX5_bad l D cy sa q rest H.size u  r12 h12r) (cwV 0 hts (gB_V wB113 wB114 wB115 wB2 wB116) rfl rfl rfl (by decide +kernel) ⟨Nat.le_of_ble_eq_true rfl, Nat.le_of_ble_eq_true rfl⟩) ⟨kP.blind, k_recv hE hP (ci := 5) (q0 := 0) rfl rfl, k_pre hP hD hS hE hA⟩ rfl rfl hl.1 rfl (lv_room (Nat.le_of_ble_eq_true rfl)) dX5_type_12 ⟨Nat.zero_le _, Nat.zero_le _⟩) hD hS hA (fun H locs hP hD hS => ?_)
    obtain rfl := o_ret hf
    exact k_iret hx hb hr hP hD hS (Nat.zero_le _) (Nat.zero_le _) hlocks dX5_type_15
  · have hf := o_in c2 hf
    refine lv_iload_n hx hb dX5_type_5 rfl (lv_at hl 2 rfl) ?_
    refine lv_bipush (v := 8) hx hb dX5_type_6 (by decide) ?_
    refine lv_icmp_le (tgt := 16) hx hb dX5_type_8 (by decide) (fun c8 => ?_) (fun c8 => ?_)
    · have hf := o_ip c8 hf
      refine lv_aload_n hx hb dX5_type_16 rfl (lv_at hl 0 rfl) ?_
      refine va_get (ci := 5) (v := .ref (q 3)) (C := RX5) (T := TX5) (N := 9) hx hb hts inlX5 hown hE.1 hP 0 rfl rfl 0 (by decide) (hts _ wB16) (fun _ h9 => h9) rfl dX5_type_17 ?_
      refine va_get (ci := 3) (v := .int (gI u 2)) (C := RX3) (T := TX3) (N := 9) hx hb hts inlX3 hown hE.1 hP 3 rfl rfl 1 (by decide) (hts _ wB111) (fun _ h9 => h9) rfl dX5_type_20 ?_
      refine lv_iload_n hx hb dX5_type_23 rfl (lv_at hl 2 rfl) ?_
      refine lv_iadd hx hb dX5_type_24 ?_
      refine lv_bipush (v := 120) hx hb dX5_type_25 (by decide) ?_
      refine lv_icmp_le (tgt := 35) hx hb dX5_type_27 (by decide) (fun c27 => ?_) (fun c27 => ?_)
      · have hf := o_ip c27 hf
        refine lv_iload_n hx hb dX5_type_35 rfl (lv_at hl 2 rfl) ?_
        refine lv_iconst (v := 1) hx hb dX5_type_36 (by decide) ?_
        refine lv_isub hx hb dX5_type_37 ?_
        refine lv_istore (lv' := [(4, .int (a3 - 1)), (0, .ref (q 0)), (1, .long a1), (3, .int a3)]) hx hb dX5_type_38 hl (by decide) rfl (fun ls hl => ?_)
        have L40 : ∀ (n40v : Nat) (s40 : Int32 × KS) (e40 : KS), lpO (mX5_type_s40 a1) n40v s40 = some e40 → ∀ (H : Heap) (locs : List Loc) (ls : Array Slot), va_P D vwCl (WX q cy s40.2 ++ rest) H → va_D A (WX q cy s40.2 ++ rest) → va_S A s.heap H locs → lv_has ls 5 [(0, .ref (q 0)), (1, .long a1), (4, .int s40.1)] → (∀ (H : Heap) (locs : List Loc) (ls : Array Slot), va_P D vwCl (WX q cy e40 ++ rest) H → va_D A (WX q cy e40 ++ rest) → va_S A s.heap H locs → lv_has ls 5 [(0, .ref (q 0))] → W p l e rmX5_type s m ([.ref (q 0), .long a1, .int a3] : List Value).toArray below meth c H locs 0 0 (MQ below (kQi D A res.1 (WX q cy res.2 ++ rest)) ([.ref (q 0), .long a1, .int a3] : List Value).toArray s 0 0 A) (F0 m 93 ls [])) → W p l e rmX5_type s m ([.ref (q 0), .long a1, .int a3] : List Value).toArray below meth c H locs 0 0 (MQ below (kQi D A res.1 (WX q cy res.2 ++ rest)) ([.ref (q 0), .long a1, .int a3] : List Value).toArray s 0 0 A) (F0 m 40 ls []) := by
          intro n40v
          induction n40v with
          | zero => intro s40 e40 h; exact (lpO_z h).elim
          | succ n40v ih40 =>
            intro s40 e40 h40z H locs ls hP hD hS hl K40_0
            obtain ⟨x40, hf, h40z⟩ := lpO_s h40z
            unfold mX5_type_s40 at hf
            refine lv_iload hx hb dX5_type_40 (lv_at hl 2 rfl) ?_
            refine lv_if_lt (tgt := 93) hx hb dX5_type_42 (by decide) (fun c42 => ?_) (fun c42 => ?_)
            · have hf := o_ip c42 hf
              obtain rfl := o_ret hf
              obtain rfl := lpK_l h40z
              exact K40_0 _ _ _ hP hD hS (lv_sub hl [0] rfl)
            · have hf := o_in c42 hf
              refine lv_aload_n hx hb dX5_type_45 rfl (lv_at hl 0 rfl) ?_
              refine va_get (ci := 5) (v := .ref (q 3)) (C := RX5) (T := TX5) (N := 9) hx hb hts inlX5 hown hE.1 hP 0 rfl rfl 0 (by decide) (hts _ wB16) (fun _ h9 => h9) rfl dX5_type_46 ?_
              refine va_get (ci := 3) (v := .ref (q 4)) (C := RX3) (T := TX3) (N := 9) hx hb hts inlX3 hown hE.1 hP 3 rfl rfl 0 (by decide) (hts _ wB112) (fun _ h9 => h9) rfl dX5_type_49 ?_
              refine lv_aload_n hx hb dX5_type_52 rfl (lv_at hl 0 rfl) ?_
              refine va_get (ci := 5) (v := .ref (q 3)) (C := RX5) (T := TX5) (N := 9) hx hb hts inlX5 hown hE.1 hP 0 rfl rfl 0 (by decide) (hts _ wB16) (fun _ h9 => h9) rfl dX5_type_53 ?_
              refine va_get (ci := 3) (v := .int (gI s40.2 2)) (C := RX3) (T := TX3) (N := 9) hx hb hts inlX3 hown hE.1 hP 3 rfl rfl 1 (by decide) (hts _ wB111) (fun _ h9 => h9) rfl dX5_type_56 ?_
              refine lv_lload_n hx hb dX5_type_59 rfl (lv_at hl 1 rfl) ?_
              refine lv_bipush (v := 8) hx hb dX5_type_60 (by decide) ?_
              refine lv_iload hx hb dX5_type_62 (lv_at hl 2 rfl) ?_
              refine lv_imul hx hb dX5_type_64 ?_
              refine lv_lshr (v := (a1 >>> ((8 * s40.1).toInt64 &&& 63))) hx hb dX5_type_65 rfl ?_
              refine lv_l2i (v := ((a1 >>> ((8 * s40.1).toInt64 &&& 63)).toInt32)) hx hb dX5_type_66 rfl ?_
              refine lv_sipush (v := 255) hx hb dX5_type_67 (by decide) ?_
              refine lv_iand hx hb dX5_type_70 ?_
              obtain ⟨r71, h71r, hf⟩ := o_bs hf
              refine k_gov (va_runS (As := [.ref (q 4), .int (gI s40.2 2), .int (((a1 >>> ((8 * s40.1).toInt64 &&& 63)).toInt32) &&& 255)]) (rest := []) ⟨hx, hb, hml, hown, hts⟩ (zX5_set l D cy sa (WX q cy s40.2 ++ rest) H.size 4 (q 4) 120 (gR s40.2 1) (gI s40.2 2) (((a1 >>> ((8 * s40.1).toInt64 &&& 63)).toInt32) &&& 255) r71 rfl h71r) (va_cwS 3 hts (gB_S wB124 wB125 wB2 wB126) rfl rfl rfl (by decide +kernel) ⟨Nat.le_of_ble_eq_true rfl, Nat.le_of_ble_eq_true rfl⟩) ⟨kP.blind, k_pre hP hD hS hE hA⟩ rfl rfl hl.1 rfl (lv_room (Nat.le_of_ble_eq_true rfl)) dX5_type_71 ⟨Nat.zero_le _, Nat.zero_le _⟩) hD hS hA (fun H locs hP hD hS => ?_)
              have hP : va_P D vwCl (WX q cy (sR s40.2 1 r71) ++ rest) H := hP
              have hD : va_D A (WX q cy (sR s40.2 1 r71) ++ rest) := hD
              refine lv_aload_n hx hb dX5_type_74 rfl (lv_at hl 0 rfl) ?_
              refine va_get (ci := 5) (v := .ref (q 3)) (C := RX5) (T := TX5) (N := 9) hx hb hts inlX5 hown hE.1 hP 0 rfl rfl 0 (by decide) (hts _ wB16) (fun _ h9 => h9) rfl dX5_type_75 ?_
              refine lv_dup hx hb dX5_type_78 rfl ?_
              refine va_get (ci := 3) (v := .int (gI s40.2 2)) (C := RX3) (T := TX3) (N := 9) hx hb hts inlX3 hown hE.1 hP 3 rfl rfl 1 (by decide) (hts _ wB111) (fun _ h9 => h9) rfl dX5_type_79 ?_
              refine lv_iconst (v := 1) hx hb dX5_type_82 (by decide) ?_
              refine lv_iadd hx hb dX5_type_83 ?_
              refine va_put (ci := 3) (v := .int ((gI s40.2 2) + 1)) (ty := .int) (C := RX3) (T := TX3) (N := 9) hx hb hts inlX3 tyX3 tyX3_ok nmX3 hown hE.1 hP hD hS 3 rfl rfl 1 (by decide) (hts _ wB111) (fun _ h9 => h9) rfl (by decide +kernel) rfl rfl (Nat.le_of_ble_eq_true rfl) dX5_type_84 (fun H locs hP hD hS => ?_)
              have hQ : ∀ (xb : KS) (x0 : (Nat → Int32)) (xn : Int32), (WX q cy (sR xb 1 x0) ++ rest).set 3 (q 3, .inr (3, [.ref (q 4), .int (gI (sR xb 1 x0) 2), .ref (q 5), .ref (q 6), .ref (q 7), .ref (q 8), .int (gI (sR xb 1 x0) 3), .ref (q 9), .int (gI (sR xb 1 x0) 4)].set 1 (.int xn))) = WX q cy (sR (sI xb 2 xn) 1 x0) ++ rest := fun _ _ _ => rfl
              have hP : va_P D vwCl (WX q cy (sR (sI s40.2 2 ((gI s40.2 2) + 1)) 1 r71) ++ rest) H := k_wP (hQ s40.2 r71 ((gI s40.2 2) + 1)) hP
              have hD : va_D A (WX q cy (sR (sI s40.2 2 ((gI s40.2 2) + 1)) 1 r71) ++ rest) := k_wD (hQ s40.2 r71 ((gI s40.2 2) + 1)) hD
              clear hQ
              refine lv_iinc (v := (s40.1 + (-1))) (lv' := [(4, .int (s40.1 + (-1))), (0, .ref (q 0)), (1, .long a1)]) hx hb dX5_type_87 hl (k := 2) rfl (by rfl) (by decide) rfl (fun ls hl => ?_)
              refine lv_goto (tgt := 40) hx hb dX5_type_90 (by decide) ?_
              obtain rfl := o_ret hf
              exact ih40 _ _ (lpK_r h40z) _ _ _ hP hD hS (lv_sub hl [1, 2, 0] rfl) K40_0
        obtain ⟨e40, h40q, hf⟩ := o_bs hf
        obtain ⟨n40v, h40q⟩ := lpF_ex h40q
        refine L40 n40v _ e40 h40q _ _ _ hP hD hS (lv_sub hl [1, 2, 0] rfl) ?_
        intro H locs ls hP hD hS hl
        refine lv_aload_n hx hb dX5_type_93 rfl (lv_at hl 0 rfl) ?_
        obtain ⟨r94, h94r, hf⟩ := o_bs hf
        refine k_gov (va_runV (As := []) (rest := []) ⟨hx, hb, hml, hown, hts⟩ (zX5_dayChanged l D cy sa q rest H.size e40  r94 h94r) (cwV 0 hts (gB_V wB131 wB132 wB133 wB2 wB134) rfl rfl rfl (by decide +kernel) ⟨Nat.le_of_ble_eq_true rfl, Nat.le_of_ble_eq_true rfl⟩) ⟨kP.blind, k_recv hE hP (ci := 5) (q0 := 0) rfl rfl, k_pre hP hD hS hE hA⟩ rfl rfl hl.1 rfl (lv_room (Nat.le_of_ble_eq_true rfl)) dX5_type_94 ⟨Nat.zero_le _, Nat.zero_le _⟩) hD hS hA (fun H locs hP hD hS => ?_)
        refine lv_aload_n hx hb dX5_type_97 rfl (lv_at hl 0 rfl) ?_
        refine va_get (ci := 5) (v := .ref (q 3)) (C := RX5) (T := TX5) (N := 9) hx hb hts inlX5 hown hE.1 hP 0 rfl rfl 0 (by decide) (hts _ wB16) (fun _ h9 => h9) rfl dX5_type_98 ?_
        refine va_get (ci := 3) (v := .int (gI r94 2)) (C := RX3) (T := TX3) (N := 9) hx hb hts inlX3 hown hE.1 hP 3 rfl rfl 1 (by decide) (hts _ wB111) (fun _ h9 => h9) rfl dX5_type_101 ?_
        obtain rfl := o_ret hf
        exact k_iret hx hb hr hP hD hS (Nat.zero_le _) (Nat.zero_le _) hlocks dX5_type_104
      · have hf := o_in c27 hf
        refine lv_aload_n hx hb dX5_type_30 rfl (lv_at hl 0 rfl) ?_
        obtain ⟨r31, h31r, hf⟩ := o_bs hf
        refine k_goi (va_runV (As := []) (rest := []) ⟨hx, hb, hml, hown, hts⟩ (zX5_full l D cy sa q rest H.size u  r31 h31r) (cwV 0 hts (gB_V wB127 wB128 wB129 wB2 wB130) rfl rfl rfl (by decide +kernel) ⟨Nat.le_of_ble_eq_true rfl, Nat.le_of_ble_eq_true rfl⟩) ⟨kP.blind, k_recv hE hP (ci := 5) (q0 := 0) rfl rfl, k_pre hP hD hS hE hA⟩ rfl rfl hl.1 rfl (lv_room (Nat.le_of_ble_eq_true rfl)) dX5_type_31 ⟨Nat.zero_le _, Nat.zero_le _⟩) hD hS hA (fun H locs hP hD hS => ?_)
        obtain rfl := o_ret hf
        exact k_iret hx hb hr hP hD hS (Nat.zero_le _) (Nat.zero_le _) hlocks dX5_type_34
    · have hf := o_in c8 hf
      refine lv_aload_n hx hb dX5_type_11 rfl (lv_at hl 0 rfl) ?_
      obtain ⟨r12, h12r, hf⟩ := o_bs hf
      refine k_goi (va_runV (As := []) (rest := []) ⟨hx, hb, hml, hown, hts⟩ (zX5_bad l D cy sa q rest H.size u  r12 h12r) (cwV 0 hts (gB_V wB113 wB114 wB115 wB2 wB116) rfl rfl rfl (by decide +kernel) ⟨Nat.le_of_ble_eq_true rfl, Nat.le_of_ble_eq_true rfl⟩) ⟨kP.blind, k_recv hE hP (ci := 5) (q0 := 0) rfl rfl, k_pre hP hD hS hE hA⟩ rfl rfl hl.1 rfl (lv_room (Nat.le_of_ble_eq_true rfl)) dX5_type_12 ⟨Nat.zero_le _, Nat.zero_le _⟩) hD hS hA (fun H locs hP hD hS => ?_)
      obtain rfl := o_ret hf
      exact k_iret hx hb hr hP hD hS (Nat.zero_le _) (Nat.zero_le _) hlocks dX5_type_15
noncomputable def mX5_warm (u : KS) (a1 : Int32) : Option (Int32 × KS) :=
  (mX5_dayIsFaulty u).bind fun r1 =>
  if r1.1 = 0 then
  (if a1 < 0 then
  ((mX5_bad r1.2).bind fun r28 =>
  some (r28.1, r28.2))
  else
  (if a1 ≤ (gI r1.2 6) then
  ((mX5_at 121 (gR r1.2 7) a1).bind fun r40 =>
  some (r40, r1.2))
  else
  ((mX5_bad r1.2).bind fun r28 =>
  some (r28.1, r28.2))))
  else
  ((mX5_no r1.2).bind fun r8 =>
  some (r8.1, r8.2))
abbrev rmX5_warm : Room := { frames := 10, cells := 0, slots := 0, locals := 217 }
set_option maxRecDepth 100000 in
set_option maxHeartbeats 4000000 in
theorem zX5_warm (l : Launch) (D : va_G) (cy : Nat → ClassId) (sa : Nat → Nat) (q : Nat → Nat) (rest : va_W) (sz : Nat) (u : KS) (a1 : Int32) (res : Int32 × KS) (hf : mX5_warm u a1 = some res) : kMi l yX5_warm (wsK yX5_warm cX5_warm 2 (some .int)) rmX5_warm D cy sa (WX q cy u ++ rest) sz [.ref (q 0), .int a1] res.1 (WX q cy res.2 ++ rest) 0 0 := by
  refine kM_of (Qc := fun A => kQi D A res.1 (WX q cy res.2 ++ rest)) (cc := cX5_warm) (maxL := 2) (ret := (some .int)) (by decide) (Nat.le_of_ble_eq_true rfl) ?_
  intro p e s m below meth c A hx hb hml hr hts hown hlocks hin hA hP hD hS hE hsz ls hl
  have hown : s.vm.findClass RX5 = some m.cls := hown
  obtain ⟨H, hH0⟩ : ∃ H, H = s.heap := ⟨_, rfl⟩
  obtain ⟨locs, hlocs0⟩ : ∃ locs : List Loc, locs = [] := ⟨_, rfl⟩
  have hP : va_P D vwCl (WX q cy u ++ rest) H := by rw [hH0]; exact hP
  have hS : va_S A s.heap H locs := by rw [hH0, hlocs0]; exact hS
  have hl : lv_has ls 2 [(0, .ref (q 0)), (1, .int a1)] := hl
  suffices hgoal : W p l e rmX5_warm s m ([.ref (q 0), .int a1] : List Value).toArray below meth c H locs 0 0 (MQ below (kQi D A res.1 (WX q cy res.2 ++ rest)) ([.ref (q 0), .int a1] : List Value).toArray s 0 0 A) (F0 m 0 ls []) by rw [hH0, hlocs0] at hgoal; exact hgoal
  clear hH0 hlocs0
  unfold mX5_warm at hf
  refine lv_aload_n hx hb dX5_warm_0 rfl (lv_at hl 0 rfl) ?_
  obtain ⟨r1, h1r, hf⟩ := o_bs hf
  refine k_goi (va_runV (As := []) (rest := []) ⟨hx, hb, hml, hown, hts⟩ (zX5_dayIsFaulty l D cy sa q rest H.size u  r1 h1r) (cwV 0 hts (gB_V wB316 wB317 wB318 wB2 wB319) rfl rfl rfl (by decide +kernel) ⟨Nat.le_of_ble_eq_true rfl, Nat.le_of_ble_eq_true rfl⟩) ⟨kP.blind, k_recv hE hP (ci := 5) (q0 := 0) rfl rfl, k_pre hP hD hS hE hA⟩ rfl rfl hl.1 rfl (lv_room (Nat.le_of_ble_eq_true rfl)) dX5_warm_1 ⟨Nat.zero_le _, Nat.zero_le _⟩) hD hS hA (fun H locs hP hD hS => ?_)
  refine lv_if_eq (tgt := 12) hx hb dX5_warm_4 (by decide) (fun c4 => ?_) (fun c4 => ?_)
  · have hf := o_ip c4 hf
    refine lv_iload_n hx hb dX5_warm_12 rfl (lv_at hl 1 rfl) ?_
    refine lv_if_lt (tgt := 27) hx hb dX5_warm_13 (by decide) (fun c13 => ?_) (fun c13 => ?_)
    · have hf := o_ip c13 hf
      refine lv_aload_n hx hb dX5_warm_27 rfl (lv_at hl 0 rfl) ?_
      obtain ⟨r28, h28r, hf⟩ := o_bs hf
      refine k_goi (va_runV (As := []) (rest := []) ⟨hx, hb, hml, hown, hts⟩ (zX5_bad l D cy sa q rest H.size r1.2  r28 h28r) (cwV 0 hts (gB_V wB113 wB114 wB115 wB2 wB116) rfl rfl rfl (by decide +kernel) ⟨Nat.le_of_ble_eq_true rfl, Nat.le_of_ble_eq_true rfl⟩) ⟨kP.blind, k_recv hE hP (ci := 5) (q0 := 0) rfl rfl, k_pre hP hD hS hE hA⟩ rfl rfl hl.1 rfl (lv_room (Nat.le_of_ble_eq_true rfl)) dX5_warm_28 ⟨Nat.zero_le _, Nat.zero_le _⟩) hD hS hA (fun H locs hP hD hS => ?_)
      obtain rfl := o_ret hf
      exact k_iret hx hb hr hP hD hS (Nat.zero_le _) (Nat.zero_le _) hlocks dX5_warm_31
    · have hf := o_in c13 hf
      refine lv_iload_n hx hb dX5_warm_16 rfl (lv_at hl 1 rfl) ?_
      refine lv_aload_n hx hb dX5_warm_17 rfl (lv_at hl 0 rfl) ?_
      refine va_get (ci := 5) (v := .ref (q 10)) (C := RX5) (T := TX5) (N := 9) hx hb hts inlX5 hown hE.1 hP 0 rfl rfl 2 (by decide) (hts _ wB21) (fun _ h9 => h9) rfl dX5_warm_18 ?_
      refine va_get (ci := 0) (v := .int (gI r1.2 6)) (C := RX0) (T := TX0) (N := 9) hx hb hts inlX0 hown hE.1 hP 10 rfl rfl 1 (by decide) (hts _ wB315) (fun _ h9 => h9) rfl dX5_warm_21 ?_
      refine lv_icmp_le (tgt := 32) hx hb dX5_warm_24 (by decide) (fun c24 => ?_) (fun c24 => ?_)
      · have hf := o_ip c24 hf
        refine lv_aload_n hx hb dX5_warm_32 rfl (lv_at hl 0 rfl) ?_
        refine va_get (ci := 5) (v := .ref (q 10)) (C := RX5) (T := TX5) (N := 9) hx hb hts inlX5 hown hE.1 hP 0 rfl rfl 2 (by decide) (hts _ wB21) (fun _ h9 => h9) rfl dX5_warm_33 ?_
        refine va_get (ci := 0) (v := .ref (q 11)) (C := RX0) (T := TX0) (N := 9) hx hb hts inlX0 hown hE.1 hP 10 rfl rfl 2 (by decide) (hts _ wB381) (fun _ h9 => h9) rfl dX5_warm_36 ?_
        refine lv_iload_n hx hb dX5_warm_39 rfl (lv_at hl 1 rfl) ?_
        obtain ⟨r40, h40r, hf⟩ := o_bs hf
        refine k_goi (va_runS (As := [.ref (q 11), .int a1]) (rest := []) ⟨hx, hb, hml, hown, hts⟩ (zX5_at l D cy sa (WX q cy r1.2 ++ rest) H.size 11 (q 11) 121 (gR r1.2 7) a1 r40 rfl h40r) (va_cwS 2 hts (gB_S wB121 wB122 wB2 wB123) rfl rfl rfl (by decide +kernel) ⟨Nat.le_of_ble_eq_true rfl, Nat.le_of_ble_eq_true rfl⟩) ⟨kP.blind, k_pre hP hD hS hE hA⟩ rfl rfl hl.1 rfl (lv_room (Nat.le_of_ble_eq_true rfl)) dX5_warm_40 ⟨Nat.zero_le _, Nat.zero_le _⟩) hD hS hA (fun H locs hP hD hS => ?_)
        obtain rfl := o_ret hf
        exact k_iret hx hb hr hP hD hS (Nat.zero_le _) (Nat.zero_le _) hlocks dX5_warm_43
      · have hf := o_in c24 hf
        refine lv_aload_n hx hb dX5_warm_27 rfl (lv_at hl 0 rfl) ?_
        obtain ⟨r28, h28r, hf⟩ := o_bs hf
        refine k_goi (va_runV (As := []) (rest := []) ⟨hx, hb, hml, hown, hts⟩ (zX5_bad l D cy sa q rest H.size r1.2  r28 h28r) (cwV 0 hts (gB_V wB113 wB114 wB115 wB2 wB116) rfl rfl rfl (by decide +kernel) ⟨Nat.le_of_ble_eq_true rfl, Nat.le_of_ble_eq_true rfl⟩) ⟨kP.blind, k_recv hE hP (ci := 5) (q0 := 0) rfl rfl, k_pre hP hD hS hE hA⟩ rfl rfl hl.1 rfl (lv_room (Nat.le_of_ble_eq_true rfl)) dX5_warm_28 ⟨Nat.zero_le _, Nat.zero_le _⟩) hD hS hA (fun H locs hP hD hS => ?_)
        obtain rfl := o_ret hf
        exact k_iret hx hb hr hP hD hS (Nat.zero_le _) (Nat.zero_le _) hlocks dX5_warm_31
  · have hf := o_in c4 hf
    refine lv_aload_n hx hb dX5_warm_7 rfl (lv_at hl 0 rfl) ?_
    obtain ⟨r8, h8r, hf⟩ := o_bs hf
    refine k_goi (va_runV (As := []) (rest := []) ⟨hx, hb, hml, hown, hts⟩ (zX5_no l D cy sa q rest H.size r1.2  r8 h8r) (cwV 0 hts (gB_V wB320 wB321 wB322 wB2 wB323) rfl rfl rfl (by decide +kernel) ⟨Nat.le_of_ble_eq_true rfl, Nat.le_of_ble_eq_true rfl⟩) ⟨kP.blind, k_recv hE hP (ci := 5) (q0 := 0) rfl rfl, k_pre hP hD hS hE hA⟩ rfl rfl hl.1 rfl (lv_room (Nat.le_of_ble_eq_true rfl)) dX5_warm_8 ⟨Nat.zero_le _, Nat.zero_le _⟩) hD hS hA (fun H locs hP hD hS => ?_)
    obtain rfl := o_ret hf
    exact k_iret hx hb hr hP hD hS (Nat.zero_le _) (Nat.zero_le _) hlocks dX5_warm_11
noncomputable def mX6_above0 (a0 : Int32) : Option (Int32) :=
  if a0 ≤ 0 then
  (some 0)
  else
  (some a0)
abbrev rmX6_above0 : Room := { frames := 0, cells := 0, slots := 0, locals := 0 }
set_option maxRecDepth 100000 in
set_option maxHeartbeats 4000000 in
theorem zX6_above0 (l : Launch) (D : va_G) (cy : Nat → ClassId) (sa : Nat → Nat) (ws : va_W) (sz : Nat) (a0 : Int32) (res : Int32) (hf : mX6_above0 a0 = some res) : kMi l yX6_above0 (wsK yX6_above0 cX6_above0 1 (some .int)) rmX6_above0 D cy sa (ws) sz [.int a0] res (ws) 0 0 := by
  refine kM_of (Qc := fun A => kQi D A res (ws)) (cc := cX6_above0) (maxL := 1) (ret := (some .int)) (by decide) (Nat.le_of_ble_eq_true rfl) ?_
  intro p e s m below meth c A hx hb hml hr hts hown hlocks hin hA hP hD hS hE hsz ls hl
  have hown : s.vm.findClass RX6 = some m.cls := hown
  obtain ⟨H, hH0⟩ : ∃ H, H = s.heap := ⟨_, rfl⟩
  obtain ⟨locs, hlocs0⟩ : ∃ locs : List Loc, locs = [] := ⟨_, rfl⟩
  have hP : va_P D vwCl (ws) H := by rw [hH0]; exact hP
  have hS : va_S A s.heap H locs := by rw [hH0, hlocs0]; exact hS
  have hl : lv_has ls 1 [(0, .int a0)] := hl
  suffices hgoal : W p l e rmX6_above0 s m ([.int a0] : List Value).toArray below meth c H locs 0 0 (MQ below (kQi D A res (ws)) ([.int a0] : List Value).toArray s 0 0 A) (F0 m 0 ls []) by rw [hH0, hlocs0] at hgoal; exact hgoal
  clear hH0 hlocs0
  unfold mX6_above0 at hf
  refine lv_iload_n hx hb dX6_above0_0 rfl (lv_at hl 0 rfl) ?_
  refine lv_if_le (tgt := 8) hx hb dX6_above0_1 (by decide) (fun c1 => ?_) (fun c1 => ?_)
  · have hf := o_ip c1 hf
    refine lv_iconst (v := 0) hx hb dX6_above0_8 (by decide) ?_
    obtain rfl := o_ret hf
    exact k_iret hx hb hr hP hD hS (Nat.zero_le _) (Nat.zero_le _) hlocks dX6_above0_9
  · have hf := o_in c1 hf
    refine lv_iload_n hx hb dX6_above0_4 rfl (lv_at hl 0 rfl) ?_
    refine lv_goto (tgt := 9) hx hb dX6_above0_5 (by decide) ?_
    obtain rfl := o_ret hf
    exact k_iret hx hb hr hP hD hS (Nat.zero_le _) (Nat.zero_le _) hlocks dX6_above0_9
noncomputable def mX6_trims_s0 (c1 : Int32) (s0 : KS) : Option ((KS) ⊕ (KS)) :=
  gd (inb c1 7) (if ((gR s0 5) (c1.toNatClampNeg)) ≤ 0 then
  (some (.inl s0))
  else
  (gd (inb c1 7) (gd (inb (((12 * c1) + ((gR s0 5) (c1.toNatClampNeg))) - 1) 84) (if ((gR s0 4) ((((12 * c1) + ((gR s0 5) (c1.toNatClampNeg))) - 1).toNatClampNeg)) = 0 then
  (gd (inb c1 7) (gd (inb c1 7) (some (.inr (sR s0 5 (upd (gR s0 5) (c1.toNatClampNeg) (((gR s0 5) (c1.toNatClampNeg)) - 1)))))))
  else
  (some (.inl s0))))))
noncomputable def mX6_trims (u : KS) (a1 : Int32) : Option (KS) :=
  (lpF (mX6_trims_s0 a1) u).bind fun e0 =>
  some e0
abbrev rmX6_trims : Room := { frames := 0, cells := 0, slots := 0, locals := 0 }
set_option maxRecDepth 100000 in
set_option maxHeartbeats 4000000 in
theorem zX6_trims (l : Launch) (D : va_G) (cy : Nat → ClassId) (sa : Nat → Nat) (q : Nat → Nat) (rest : va_W) (sz : Nat) (u : KS) (a1 : Int32) (res : KS) (hf : mX6_trims u a1 = some res) : kMv l yX6_trims (wsK yX6_trims cX6_trims 2 none) rmX6_trims D cy sa (WM q cy u ++ rest) sz [.ref (q 0), .int a1] (WM q cy res ++ rest) 0 0 := by
  refine kM_of (Qc := fun A => kQv D A (WM q cy res ++ rest)) (cc := cX6_trims) (maxL := 2) (ret := none) (by decide) (Nat.le_of_ble_eq_true rfl) ?_
  intro p e s m below meth c A hx hb hml hr hts hown hlocks hin hA hP hD hS hE hsz ls hl
  have hown : s.vm.findClass RX6 = some m.cls := hown
  obtain ⟨H, hH0⟩ : ∃ H, H = s.heap := ⟨_, rfl⟩
  obtain ⟨locs, hlocs0⟩ : ∃ locs : List Loc, locs = [] := ⟨_, rfl⟩
  have hP : va_P D vwCl (WM q cy u ++ rest) H := by rw [hH0]; exact hP
  have hS : va_S A s.heap H locs := by rw [hH0, hlocs0]; exact hS
  have hl : lv_has ls 2 [(0, .ref (q 0)), (1, .int a1)] := hl
  suffices hgoal : W p l e rmX6_trims s m ([.ref (q 0), .int a1] : List Value).toArray below meth c H locs 0 0 (MQ below (kQv D A (WM q cy res ++ rest)) ([.ref (q 0), .int a1] : List Value).toArray s 0 0 A) (F0 m 0 ls []) by rw [hH0, hlocs0] at hgoal; exact hgoal
  clear hH0 hlocs0
  unfold mX6_trims at hf
  have L0 : ∀ (n0v : Nat) (s0 : KS) (e0 : KS), lpO (mX6_trims_s0 a1) n0v s0 = some e0 → ∀ (H : Heap) (locs : List Loc) (ls : Array Slot), va_P D vwCl (WM q cy s0 ++ rest) H → va_D A (WM q cy s0 ++ rest) → va_S A s.heap H locs → lv_has ls 2 [(0, .ref (q 0)), (1, .int a1)] → (∀ (H : Heap) (locs : List Loc) (ls : Array Slot), va_P D vwCl (WM q cy e0 ++ rest) H → va_D A (WM q cy e0 ++ rest) → va_S A s.heap H locs → lv_has ls 2 [] → W p l e rmX6_trims s m ([.ref (q 0), .int a1] : List Value).toArray below meth c H locs 0 0 (MQ below (kQv D A (WM q cy res ++ rest)) ([.ref (q 0), .int a1] : List Value).toArray s 0 0 A) (F0 m 43 ls [])) → W p l e rmX6_trims s m ([.ref (q 0), .int a1] : List Value).toArray below meth c H locs 0 0 (MQ below (kQv D A (WM q cy res ++ rest)) ([.ref (q 0), .int a1] : List Value).toArray s 0 0 A) (F0 m 0 ls []) := by
    intro n0v
    induction n0v with
    | zero => intro s0 e0 h; exact (lpO_z h).elim
    | succ n0v ih0 =>
      intro s0 e0 h0z H locs ls hP hD hS hl K0_0
      obtain ⟨x0, hf, h0z⟩ := lpO_s h0z
      unfold mX6_trims_s0 at hf
      refine lv_aload_n hx hb dX6_trims_0 rfl (lv_at hl 0 rfl) ?_
      refine va_get (ci := 6) (v := .ref (q 6)) (C := RX6) (T := TX6) (N := 26) hx hb hts inlX6 hown hE.1 hP 0 rfl rfl 6 (by decide) (hts _ wB89) (fun _ h9 => h9) rfl dX6_trims_1 ?_
      refine lv_iload_n hx hb dX6_trims_4 rfl (lv_at hl 1 rfl) ?_
      obtain ⟨hg5, hf⟩ := gd_s hf
      refine va_iald (f := (gR s0 5)) hx hb hE.1 hP 6 0 rfl rfl hg5 dX6_trims_5 ?_
      refine lv_if_le (tgt := 43) hx hb dX6_trims_6 (by decide) (fun c6 => ?_) (fun c6 => ?_)
      · have hf := o_ip c6 hf
        obtain rfl := o_ret hf
        obtain rfl := lpK_l h0z
        exact K0_0 _ _ _ hP hD hS (lv_sub hl [] rfl)
      · have hf := o_in c6 hf
        refine lv_aload_n hx hb dX6_trims_9 rfl (lv_at hl 0 rfl) ?_
        refine va_get (ci := 6) (v := .ref (q 5)) (C := RX6) (T := TX6) (N := 26) hx hb hts inlX6 hown hE.1 hP 0 rfl rfl 5 (by decide) (hts _ wB88) (fun _ h9 => h9) rfl dX6_trims_10 ?_
        refine lv_bipush (v := 12) hx hb dX6_trims_13 (by decide) ?_
        refine lv_iload_n hx hb dX6_trims_15 rfl (lv_at hl 1 rfl) ?_
        refine lv_imul hx hb dX6_trims_16 ?_
        refine lv_aload_n hx hb dX6_trims_17 rfl (lv_at hl 0 rfl) ?_
        refine va_get (ci := 6) (v := .ref (q 6)) (C := RX6) (T := TX6) (N := 26) hx hb hts inlX6 hown hE.1 hP 0 rfl rfl 6 (by decide) (hts _ wB89) (fun _ h9 => h9) rfl dX6_trims_18 ?_
        refine lv_iload_n hx hb dX6_trims_21 rfl (lv_at hl 1 rfl) ?_
        obtain ⟨hg22, hf⟩ := gd_s hf
        refine va_iald (f := (gR s0 5)) hx hb hE.1 hP 6 0 rfl rfl hg22 dX6_trims_22 ?_
        refine lv_iadd hx hb dX6_trims_23 ?_
        refine lv_iconst (v := 1) hx hb dX6_trims_24 (by decide) ?_
        refine lv_isub hx hb dX6_trims_25 ?_
        obtain ⟨hg26, hf⟩ := gd_s hf
        refine va_iald (f := (gR s0 4)) hx hb hE.1 hP 5 0 rfl rfl hg26 dX6_trims_26 ?_
        refine lv_if_ne (tgt := 43) hx hb dX6_trims_27 (by decide) (fun c27 => ?_) (fun c27 => ?_)
        · have hf := o_in c27 hf
          obtain rfl := o_ret hf
          obtain rfl := lpK_l h0z
          exact K0_0 _ _ _ hP hD hS (lv_sub hl [] rfl)
        · have hf := o_ip c27 hf
          refine lv_aload_n hx hb dX6_trims_30 rfl (lv_at hl 0 rfl) ?_
          refine va_get (ci := 6) (v := .ref (q 6)) (C := RX6) (T := TX6) (N := 26) hx hb hts inlX6 hown hE.1 hP 0 rfl rfl 6 (by decide) (hts _ wB89) (fun _ h9 => h9) rfl dX6_trims_31 ?_
          refine lv_iload_n hx hb dX6_trims_34 rfl (lv_at hl 1 rfl) ?_
          refine lv_dup2_11 hx hb dX6_trims_35 rfl rfl ?_
          obtain ⟨hg36, hf⟩ := gd_s hf
          refine va_iald (f := (gR s0 5)) hx hb hE.1 hP 6 0 rfl rfl hg36 dX6_trims_36 ?_
          refine lv_iconst (v := 1) hx hb dX6_trims_37 (by decide) ?_
          refine lv_isub hx hb dX6_trims_38 ?_
          obtain ⟨hg39, hf⟩ := gd_s hf
          refine va_iast (f := (gR s0 5)) hx hb hE.1 hP hD hS 6 0 rfl rfl hg39 dX6_trims_39 (fun H locs hP hD hS => ?_)
          have hP : va_P D vwCl (WM q cy (sR s0 5 (upd (gR s0 5) (a1.toNatClampNeg) (((gR s0 5) (a1.toNatClampNeg)) - 1))) ++ rest) H := hP
          have hD : va_D A (WM q cy (sR s0 5 (upd (gR s0 5) (a1.toNatClampNeg) (((gR s0 5) (a1.toNatClampNeg)) - 1))) ++ rest) := hD
          refine lv_goto (tgt := 0) hx hb dX6_trims_40 (by decide) ?_
          obtain rfl := o_ret hf
          exact ih0 _ _ (lpK_r h0z) _ _ _ hP hD hS (lv_sub hl [0, 1] rfl) K0_0
  obtain ⟨e0, h0q, hf⟩ := o_bs hf
  obtain ⟨n0v, h0q⟩ := lpF_ex h0q
  refine L0 n0v _ e0 h0q _ _ _ hP hD hS (lv_sub hl [0, 1] rfl) ?_
  intro H locs ls hP hD hS hl
  obtain rfl := o_ret hf
  exact k_vret hx hb hr hP hD hS (Nat.zero_le _) (Nat.zero_le _) hlocks dX6_trims_43
noncomputable def mX6_adds_s37 (c1 : Int32) (c2 : Int32) (c4 : Int32) (s37 : Int32 × Int32 × KS) : Option (((Int32 × KS)) ⊕ (Int32 × Int32 × KS)) :=
  if c4 ≤ s37.2.1 then
  (some (.inl (s37.1, s37.2.2)))
  else
  (gd (inb ((12 * c1) + s37.2.1) 84) (gd (inb ((12 * c2) + s37.2.1) 84) (gd (inb ((12 * c1) + s37.2.1) 84) (some (.inr (((((((gR s37.2.2 4) (((12 * c1) + s37.2.1).toNatClampNeg)) + ((gR s37.2.2 4) (((12 * c2) + s37.2.1).toNatClampNeg))) + s37.1).toUInt32 >>> ((30 : Int32).toUInt32 &&& Int32.toUInt32 31)).toInt32), (s37.2.1 + 1), (sR s37.2.2 4 (upd (gR s37.2.2 4) (((12 * c1) + s37.2.1).toNatClampNeg) (((((gR s37.2.2 4) (((12 * c1) + s37.2.1).toNatClampNeg)) + ((gR s37.2.2 4) (((12 * c2) + s37.2.1).toNatClampNeg))) + s37.1) &&& 1073741823)))))))))
noncomputable def mX6_adds (u : KS) (a1 : Int32) (a2 : Int32) : Option (KS) :=
  gd (inb a1 7) (gd (inb a2 7) (if ((gR u 5) (a1.toNatClampNeg)) ≤ ((gR u 5) (a2.toNatClampNeg)) then
  (gd (inb a2 7) ((lpF (mX6_adds_s37 a1 a2 ((gR u 5) (a2.toNatClampNeg))) (0, 0, u)).bind fun e37 =>
  gd (inb ((12 * a1) + ((gR u 5) (a2.toNatClampNeg))) 84) (gd (inb a1 7) ((mX6_trims (sR (sR e37.2 4 (upd (gR e37.2 4) (((12 * a1) + ((gR u 5) (a2.toNatClampNeg))).toNatClampNeg) e37.1)) 5 (upd (gR e37.2 5) (a1.toNatClampNeg) (((gR u 5) (a2.toNatClampNeg)) + e37.1))) a1).bind fun r127 =>
  some r127))))
  else
  (gd (inb a1 7) ((lpF (mX6_adds_s37 a1 a2 ((gR u 5) (a1.toNatClampNeg))) (0, 0, u)).bind fun e37 =>
  gd (inb ((12 * a1) + ((gR u 5) (a1.toNatClampNeg))) 84) (gd (inb a1 7) ((mX6_trims (sR (sR e37.2 4 (upd (gR e37.2 4) (((12 * a1) + ((gR u 5) (a1.toNatClampNeg))).toNatClampNeg) e37.1)) 5 (upd (gR e37.2 5) (a1.toNatClampNeg) (((gR u 5) (a1.toNatClampNeg)) + e37.1))) a1).bind fun r127 =>
  some r127))))))
abbrev rmX6_adds : Room := { frames := 1, cells := 0, slots := 0, locals := 21 }
set_option maxRecDepth 100000 in
set_option maxHeartbeats 4000000 in
theorem zX6_adds (l : Launch) (D : va_G) (cy : Nat → ClassId) (sa : Nat → Nat) (q : Nat → Nat) (rest : va_W) (sz : Nat) (u : KS) (a1 : Int32) (a2 : Int32) (res : KS) (hf : mX6_adds u a1 a2 = some res) : kMv l yX6_adds (wsK yX6_adds cX6_adds 7 none) rmX6_adds D cy sa (WM q cy u ++ rest) sz [.ref (q 0), .int a1, .int a2] (WM q cy res ++ rest) 0 0 := by
  refine kM_of (Qc := fun A => kQv D A (WM q cy res ++ rest)) (cc := cX6_adds) (maxL := 7) (ret := none) (by decide) (Nat.le_of_ble_eq_true rfl) ?_
  intro p e s m below meth c A hx hb hml hr hts hown hlocks hin hA hP hD hS hE hsz ls hl
  have hown : s.vm.findClass RX6 = some m.cls := hown
  obtain ⟨H, hH0⟩ : ∃ H, H = s.heap := ⟨_, rfl⟩
  obtain ⟨locs, hlocs0⟩ : ∃ locs : List Loc, locs = [] := ⟨_, rfl⟩
  have hP : va_P D vwCl (WM q cy u ++ rest) H := by rw [hH0]; exact hP
  have hS : va_S A s.heap H locs := by rw [hH0, hlocs0]; exact hS
  have hl : lv_has ls 7 [(0, .ref (q 0)), (1, .int a1), (2, .int a2)] := hl
  suffices hgoal : W p l e rmX6_adds s m ([.ref (q 0), .int a1, .int a2] : List Value).toArray below meth c H locs 0 0 (MQ below (kQv D A (WM q cy res ++ rest)) ([.ref (q 0), .int a1, .int a2] : List Value).toArray s 0 0 A) (F0 m 0 ls []) by rw [hH0, hlocs0] at hgoal; exact hgoal
  clear hH0 hlocs0
  unfold mX6_adds at hf
  refine lv_iconst (v := 0) hx hb dX6_adds_0 (by decide) ?_
  refine lv_istore_n (lv' := [(3, .int 0), (0, .ref (q 0)), (1, .int a1), (2, .int a2)]) hx hb dX6_adds_1 rfl hl (by decide) rfl (fun ls hl => ?_)
  refine lv_aload_n hx hb dX6_adds_2 rfl (lv_at hl 1 rfl) ?_
  refine va_get (ci := 6) (v := .ref (q 6)) (C := RX6) (T := TX6) (N := 26) hx hb hts inlX6 hown hE.1 hP 0 rfl rfl 6 (by decide) (hts _ wB89) (fun _ h9 => h9) rfl dX6_adds_3 ?_
  refine lv_iload_n hx hb dX6_adds_6 rfl (lv_at hl 2 rfl) ?_
  obtain ⟨hg7, hf⟩ := gd_s hf
  refine va_iald (f := (gR u 5)) hx hb hE.1 hP 6 0 rfl rfl hg7 dX6_adds_7 ?_
  refine lv_aload_n hx hb dX6_adds_8 rfl (lv_at hl 1 rfl) ?_
  refine va_get (ci := 6) (v := .ref (q 6)) (C := RX6) (T := TX6) (N := 26) hx hb hts inlX6 hown hE.1 hP 0 rfl rfl 6 (by decide) (hts _ wB89) (fun _ h9 => h9) rfl dX6_adds_9 ?_
  refine lv_iload_n hx hb dX6_adds_12 rfl (lv_at hl 3 rfl) ?_
  obtain ⟨hg13, hf⟩ := gd_s hf
  refine va_iald (f := (gR u 5)) hx hb hE.1 hP 6 0 rfl rfl hg13 dX6_adds_13 ?_
  refine lv_icmp_le (tgt := 26) hx hb dX6_adds_14 (by decide) (fun c14 => ?_) (fun c14 => ?_)
  · have hf := o_ip c14 hf
    refine lv_aload_n hx hb dX6_adds_26 rfl (lv_at hl 1 rfl) ?_
    refine va_get (ci := 6) (v := .ref (q 6)) (C := RX6) (T := TX6) (N := 26) hx hb hts inlX6 hown hE.1 hP 0 rfl rfl 6 (by decide) (hts _ wB89) (fun _ h9 => h9) rfl dX6_adds_27 ?_
    refine lv_iload_n hx hb dX6_adds_30 rfl (lv_at hl 3 rfl) ?_
    obtain ⟨hg31, hf⟩ := gd_s hf
    refine va_iald (f := (gR u 5)) hx hb hE.1 hP 6 0 rfl rfl hg31 dX6_adds_31 ?_
    refine lv_istore (lv' := [(4, .int ((gR u 5) (a2.toNatClampNeg))), (3, .int 0), (0, .ref (q 0)), (1, .int a1), (2, .int a2)]) hx hb dX6_adds_32 hl (by decide) rfl (fun ls hl => ?_)
    refine lv_iconst (v := 0) hx hb dX6_adds_34 (by decide) ?_
    refine lv_istore (lv' := [(5, .int 0), (4, .int ((gR u 5) (a2.toNatClampNeg))), (3, .int 0), (0, .ref (q 0)), (1, .int a1), (2, .int a2)]) hx hb dX6_adds_35 hl (by decide) rfl (fun ls hl => ?_)
    have L37 : ∀ (n37v : Nat) (s37 : Int32 × Int32 × KS) (e37 : (Int32 × KS)), lpO (mX6_adds_s37 a1 a2 ((gR u 5) (a2.toNatClampNeg))) n37v s37 = some e37 → ∀ (H : Heap) (locs : List Loc) (ls : Array Slot), va_P D vwCl (WM q cy s37.2.2 ++ rest) H → va_D A (WM q cy s37.2.2 ++ rest) → va_S A s.heap H locs → lv_has ls 7 [(0, .ref (q 0)), (1, .int a1), (2, .int a2), (3, .int s37.1), (4, .int ((gR u 5) (a2.toNatClampNeg))), (5, .int s37.2.1)] → (∀ (H : Heap) (locs : List Loc) (ls : Array Slot), va_P D vwCl (WM q cy e37.2 ++ rest) H → va_D A (WM q cy e37.2 ++ rest) → va_S A s.heap H locs → lv_has ls 7 [(0, .ref (q 0)), (1, .int a1), (3, .int e37.1), (4, .int ((gR u 5) (a2.toNatClampNeg)))] → W p l e rmX6_adds s m ([.ref (q 0), .int a1, .int a2] : List Value).toArray below meth c H locs 0 0 (MQ below (kQv D A (WM q cy res ++ rest)) ([.ref (q 0), .int a1, .int a2] : List Value).toArray s 0 0 A) (F0 m 102 ls [])) → W p l e rmX6_adds s m ([.ref (q 0), .int a1, .int a2] : List Value).toArray below meth c H locs 0 0 (MQ below (kQv D A (WM q cy res ++ rest)) ([.ref (q 0), .int a1, .int a2] : List Value).toArray s 0 0 A) (F0 m 37 ls []) := by
      intro n37v
      induction n37v with
      | zero => intro s37 e37 h; exact (lpO_z h).elim
      | succ n37v ih37 =>
        intro s37 e37 h37z H locs ls hP hD hS hl K37_0
        obtain ⟨x37, hf, h37z⟩ := lpO_s h37z
        unfold mX6_adds_s37 at hf
        refine lv_iload hx hb dX6_adds_37 (lv_at hl 5 rfl) ?_
        refine lv_iload hx hb dX6_adds_39 (lv_at hl 4 rfl) ?_
        refine lv_icmp_ge (tgt := 102) hx hb dX6_adds_41 (by decide) (fun c41 => ?_) (fun c41 => ?_)
        · have hf := o_ip c41 hf
          obtain rfl := o_ret hf
          obtain rfl := lpK_l h37z
          exact K37_0 _ _ _ hP hD hS (lv_sub hl [0, 1, 3, 4] rfl)
        · have hf := o_in c41 hf
          refine lv_aload_n hx hb dX6_adds_44 rfl (lv_at hl 0 rfl) ?_
          refine va_get (ci := 6) (v := .ref (q 5)) (C := RX6) (T := TX6) (N := 26) hx hb hts inlX6 hown hE.1 hP 0 rfl rfl 5 (by decide) (hts _ wB88) (fun _ h9 => h9) rfl dX6_adds_45 ?_
          refine lv_bipush (v := 12) hx hb dX6_adds_48 (by decide) ?_
          refine lv_iload_n hx hb dX6_adds_50 rfl (lv_at hl 1 rfl) ?_
          refine lv_imul hx hb dX6_adds_51 ?_
          refine lv_iload hx hb dX6_adds_52 (lv_at hl 5 rfl) ?_
          refine lv_iadd hx hb dX6_adds_54 ?_
          obtain ⟨hg55, hf⟩ := gd_s hf
          refine va_iald (f := (gR s37.2.2 4)) hx hb hE.1 hP 5 0 rfl rfl hg55 dX6_adds_55 ?_
          refine lv_aload_n hx hb dX6_adds_56 rfl (lv_at hl 0 rfl) ?_
          refine va_get (ci := 6) (v := .ref (q 5)) (C := RX6) (T := TX6) (N := 26) hx hb hts inlX6 hown hE.1 hP 0 rfl rfl 5 (by decide) (hts _ wB88) (fun _ h9 => h9) rfl dX6_adds_57 ?_
          refine lv_bipush (v := 12) hx hb dX6_adds_60 (by decide) ?_
          refine lv_iload_n hx hb dX6_adds_62 rfl (lv_at hl 2 rfl) ?_
          refine lv_imul hx hb dX6_adds_63 ?_
          refine lv_iload hx hb dX6_adds_64 (lv_at hl 5 rfl) ?_
          refine lv_iadd hx hb dX6_adds_66 ?_
          obtain ⟨hg67, hf⟩ := gd_s hf
          refine va_iald (f := (gR s37.2.2 4)) hx hb hE.1 hP 5 0 rfl rfl hg67 dX6_adds_67 ?_
          refine lv_iadd hx hb dX6_adds_68 ?_
          refine lv_iload_n hx hb dX6_adds_69 rfl (lv_at hl 3 rfl) ?_
          refine lv_iadd hx hb dX6_adds_70 ?_
          refine lv_istore (lv' := [(6, .int ((((gR s37.2.2 4) (((12 * a1) + s37.2.1).toNatClampNeg)) + ((gR s37.2.2 4) (((12 * a2) + s37.2.1).toNatClampNeg))) + s37.1)), (0, .ref (q 0)), (1, .int a1), (2, .int a2), (3, .int s37.1), (4, .int ((gR u 5) (a2.toNatClampNeg))), (5, .int s37.2.1)]) hx hb dX6_adds_71 hl (by decide) rfl (fun ls hl => ?_)
          refine lv_aload_n hx hb dX6_adds_73 rfl (lv_at hl 1 rfl) ?_
          refine va_get (ci := 6) (v := .ref (q 5)) (C := RX6) (T := TX6) (N := 26) hx hb hts inlX6 hown hE.1 hP 0 rfl rfl 5 (by decide) (hts _ wB88) (fun _ h9 => h9) rfl dX6_adds_74 ?_
          refine lv_bipush (v := 12) hx hb dX6_adds_77 (by decide) ?_
          refine lv_iload_n hx hb dX6_adds_79 rfl (lv_at hl 2 rfl) ?_
          refine lv_imul hx hb dX6_adds_80 ?_
          refine lv_iload hx hb dX6_adds_81 (lv_at hl 6 rfl) ?_
          refine lv_iadd hx hb dX6_adds_83 ?_
          refine lv_iload hx hb dX6_adds_84 (lv_at hl 0 rfl) ?_
          refine lv_ldc (v := 1073741823) hx hb hown (hts _ wB609) dX6_adds_86 ?_
          refine lv_iand hx hb dX6_adds_88 ?_
          obtain ⟨hg89, hf⟩ := gd_s hf
          refine va_iast (f := (gR s37.2.2 4)) hx hb hE.1 hP hD hS 5 0 rfl rfl hg89 dX6_adds_89 (fun H locs hP hD hS => ?_)
          have hP : va_P D vwCl (WM q cy (sR s37.2.2 4 (upd (gR s37.2.2 4) (((12 * a1) + s37.2.1).toNatClampNeg) (((((gR s37.2.2 4) (((12 * a1) + s37.2.1).toNatClampNeg)) + ((gR s37.2.2 4) (((12 * a2) + s37.2.1).toNatClampNeg))) + s37.1) &&& 1073741823))) ++ rest) H := hP
          have hD : va_D A (WM q cy (sR s37.2.2 4 (upd (gR s37.2.2 4) (((12 * a1) + s37.2.1).toNatClampNeg) (((((gR s37.2.2 4) (((12 * a1) + s37.2.1).toNatClampNeg)) + ((gR s37.2.2 4) (((12 * a2) + s37.2.1).toNatClampNeg))) + s37.1) &&& 1073741823))) ++ rest) := hD
          refine lv_iload hx hb dX6_adds_90 (lv_at hl 0 rfl) ?_
          refine lv_bipush (v := 30) hx hb dX6_adds_92 (by decide) ?_
          refine lv_iushr (v := (((((gR s37.2.2 4) (((12 * a1) + s37.2.1).toNatClampNeg)) + ((gR s37.2.2 4) (((12 * a2) + s37.2.1).toNatClampNeg))) + s37.1).toUInt32 >>> ((30 : Int32).toUInt32 &&& Int32.toUInt32 31)).toInt32) hx hb dX6_adds_94 rfl ?_
          refine lv_istore_n (lv' := [(3, .int ((((((gR s37.2.2 4) (((12 * a1) + s37.2.1).toNatClampNeg)) + ((gR s37.2.2 4) (((12 * a2) + s37.2.1).toNatClampNeg))) + s37.1).toUInt32 >>> ((30 : Int32).toUInt32 &&& Int32.toUInt32 31)).toInt32)), (6, .int ((((gR s37.2.2 4) (((12 * a1) + s37.2.1).toNatClampNeg)) + ((gR s37.2.2 4) (((12 * a2) + s37.2.1).toNatClampNeg))) + s37.1)), (0, .ref (q 0)), (1, .int a1), (2, .int a2), (4, .int ((gR u 5) (a2.toNatClampNeg))), (5, .int s37.2.1)]) hx hb dX6_adds_95 rfl hl (by decide) rfl (fun ls hl => ?_)
          refine lv_iinc (v := (s37.2.1 + 1)) (lv' := [(5, .int (s37.2.1 + 1)), (3, .int ((((((gR s37.2.2 4) (((12 * a1) + s37.2.1).toNatClampNeg)) + ((gR s37.2.2 4) (((12 * a2) + s37.2.1).toNatClampNeg))) + s37.1).toUInt32 >>> ((30 : Int32).toUInt32 &&& Int32.toUInt32 31)).toInt32)), (6, .int ((((gR s37.2.2 4) (((12 * a1) + s37.2.1).toNatClampNeg)) + ((gR s37.2.2 4) (((12 * a2) + s37.2.1).toNatClampNeg))) + s37.1)), (0, .ref (q 0)), (1, .int a1), (2, .int a2), (4, .int ((gR u 5) (a2.toNatClampNeg)))]) hx hb dX6_adds_96 hl (k := 6) rfl (by rfl) (by decide) rfl (fun ls hl => ?_)
          refine lv_goto (tgt := 37) hx hb dX6_adds_99 (by decide) ?_
          obtain rfl := o_ret hf
          exact ih37 _ _ (lpK_r h37z) _ _ _ hP hD hS (lv_sub hl [3, 4, 5, 1, 6, 0] rfl) K37_0
    obtain ⟨e37, h37q, hf⟩ := o_bs hf
    obtain ⟨n37v, h37q⟩ := lpF_ex h37q
    refine L37 n37v _ e37 h37q _ _ _ hP hD hS (lv_sub hl [3, 4, 5, 2, 1, 0] rfl) ?_
    intro H locs ls hP hD hS hl
    refine lv_aload_n hx hb dX6_adds_102 rfl (lv_at hl 0 rfl) ?_
    refine va_get (ci := 6) (v := .ref (q 5)) (C := RX6) (T := TX6) (N := 26) hx hb hts inlX6 hown hE.1 hP 0 rfl rfl 5 (by decide) (hts _ wB88) (fun _ h9 => h9) rfl dX6_adds_103 ?_
    refine lv_bipush (v := 12) hx hb dX6_adds_106 (by decide) ?_
    refine lv_iload_n hx hb dX6_adds_108 rfl (lv_at hl 1 rfl) ?_
    refine lv_imul hx hb dX6_adds_109 ?_
    refine lv_iload hx hb dX6_adds_110 (lv_at hl 3 rfl) ?_
    refine lv_iadd hx hb dX6_adds_112 ?_
    refine lv_iload_n hx hb dX6_adds_113 rfl (lv_at hl 2 rfl) ?_
    obtain ⟨hg114, hf⟩ := gd_s hf
    refine va_iast (f := (gR e37.2 4)) hx hb hE.1 hP hD hS 5 0 rfl rfl hg114 dX6_adds_114 (fun H locs hP hD hS => ?_)
    have hP : va_P D vwCl (WM q cy (sR e37.2 4 (upd (gR e37.2 4) (((12 * a1) + ((gR u 5) (a2.toNatClampNeg))).toNatClampNeg) e37.1)) ++ rest) H := hP
    have hD : va_D A (WM q cy (sR e37.2 4 (upd (gR e37.2 4) (((12 * a1) + ((gR u 5) (a2.toNatClampNeg))).toNatClampNeg) e37.1)) ++ rest) := hD
    refine lv_aload_n hx hb dX6_adds_115 rfl (lv_at hl 0 rfl) ?_
    refine va_get (ci := 6) (v := .ref (q 6)) (C := RX6) (T := TX6) (N := 26) hx hb hts inlX6 hown hE.1 hP 0 rfl rfl 6 (by decide) (hts _ wB89) (fun _ h9 => h9) rfl dX6_adds_116 ?_
    refine lv_iload_n hx hb dX6_adds_119 rfl (lv_at hl 1 rfl) ?_
    refine lv_iload hx hb dX6_adds_120 (lv_at hl 3 rfl) ?_
    refine lv_iload_n hx hb dX6_adds_122 rfl (lv_at hl 2 rfl) ?_
    refine lv_iadd hx hb dX6_adds_123 ?_
    obtain ⟨hg124, hf⟩ := gd_s hf
    refine va_iast (f := (gR e37.2 5)) hx hb hE.1 hP hD hS 6 0 rfl rfl hg124 dX6_adds_124 (fun H locs hP hD hS => ?_)
    have hQ : ∀ (xb : KS) (x0 : (Nat → Int32)) (xn : (Nat → Int32)), (WM q cy (sR xb 4 x0) ++ rest).set 6 (q 6, .inl (cy 0, 7, .inl xn)) = WM q cy (sR (sR xb 4 x0) 5 xn) ++ rest := fun _ _ _ => rfl
    have hP : va_P D vwCl (WM q cy (sR (sR e37.2 4 (upd (gR e37.2 4) (((12 * a1) + ((gR u 5) (a2.toNatClampNeg))).toNatClampNeg) e37.1)) 5 (upd (gR e37.2 5) (a1.toNatClampNeg) (((gR u 5) (a2.toNatClampNeg)) + e37.1))) ++ rest) H := k_wP (hQ e37.2 (upd (gR e37.2 4) (((12 * a1) + ((gR u 5) (a2.toNatClampNeg))).toNatClampNeg) e37.1) (upd (gR e37.2 5) (a1.toNatClampNeg) (((gR u 5) (a2.toNatClampNeg)) + e37.1))) hP
    have hD : va_D A (WM q cy (sR (sR e37.2 4 (upd (gR e37.2 4) (((12 * a1) + ((gR u 5) (a2.toNatClampNeg))).toNatClampNeg) e37.1)) 5 (upd (gR e37.2 5) (a1.toNatClampNeg) (((gR u 5) (a2.toNatClampNeg)) + e37.1))) ++ rest) := k_wD (hQ e37.2 (upd (gR e37.2 4) (((12 * a1) + ((gR u 5) (a2.toNatClampNeg))).toNatClampNeg) e37.1) (upd (gR e37.2 5) (a1.toNatClampNeg) (((gR u 5) (a2.toNatClampNeg)) + e37.1))) hD
    clear hQ
    refine lv_aload_n hx hb dX6_adds_125 rfl (lv_at hl 0 rfl) ?_
    refine lv_iload_n hx hb dX6_adds_126 rfl (lv_at hl 1 rfl) ?_
    obtain ⟨r127, h127r, hf⟩ := o_bs hf
    refine k_gov (va_runV (As := [.int a1]) (rest := []) ⟨hx, hb, hml, hown, hts⟩ (zX6_trims l D cy sa q rest H.size (sR (sR e37.2 4 (upd (gR e37.2 4) (((12 * a1) + ((gR u 5) (a2.toNatClampNeg))).toNatClampNeg) e37.1)) 5 (upd (gR e37.2 5) (a1.toNatClampNeg) (((gR u 5) (a2.toNatClampNeg)) + e37.1))) a1 r127 h127r) (cwV 1 hts (gB_V wB103 wB104 wB105 wB5 wB106) rfl rfl rfl (by decide +kernel) ⟨Nat.le_of_ble_eq_true rfl, Nat.le_of_ble_eq_true rfl⟩) ⟨kP.blind, k_recv hE hP (ci := 6) (q0 := 0) rfl rfl, k_pre hP hD hS hE hA⟩ rfl rfl hl.1 rfl (lv_room (Nat.le_of_ble_eq_true rfl)) dX6_adds_127 ⟨Nat.zero_le _, Nat.zero_le _⟩) hD hS hA (fun H locs hP hD hS => ?_)
    obtain rfl := o_ret hf
    exact k_vret hx hb hr hP hD hS (Nat.zero_le _) (Nat.zero_le _) hlocks dX6_adds_130
  · have hf := o_in c14 hf
    refine lv_aload_n hx hb dX6_adds_17 rfl (lv_at hl 1 rfl) ?_
    refine va_get (ci := 6) (v := .ref (q 6)) (C := RX6) (T := TX6) (N := 26) hx hb hts inlX6 hown hE.1 hP 0 rfl rfl 6 (by decide) (hts _ wB89) (fun _ h9 => h9) rfl dX6_adds_18 ?_
    refine lv_iload_n hx hb dX6_adds_21 rfl (lv_at hl 2 rfl) ?_
    obtain ⟨hg22, hf⟩ := gd_s hf
    refine va_iald (f := (gR u 5)) hx hb hE.1 hP 6 0 rfl rfl hg22 dX6_adds_22 ?_
    refine lv_goto (tgt := 32) hx hb dX6_adds_23 (by decide) ?_
    refine lv_istore (lv' := [(4, .int ((gR u 5) (a1.toNatClampNeg))), (3, .int 0), (0, .ref (q 0)), (1, .int a1), (2, .int a2)]) hx hb dX6_adds_32 hl (by decide) rfl (fun ls hl => ?_)
    refine lv_iconst (v := 0) hx hb dX6_adds_34 (by decide) ?_
    refine lv_istore (lv' := [(5, .int 0), (4, .int ((gR u 5) (a1.toNatClampNeg))), (3, .int 0), (0, .ref (q 0)), (1, .int a1), (2, .int a2)]) hx hb dX6_adds_35 hl (by decide) rfl (fun ls hl => ?_)
    have L37 : ∀ (n37v : Nat) (s37 : Int32 × Int32 × KS) (e37 : (Int32 × KS)), lpO (mX6_adds_s37 a1 a2 ((gR u 5) (a1.toNatClampNeg))) n37v s37 = some e37 → ∀ (H : Heap) (locs : List Loc) (ls : Array Slot), va_P D vwCl (WM q cy s37.2.2 ++ rest) H → va_D A (WM q cy s37.2.2 ++ rest) → va_S A s.heap H locs → lv_has ls 7 [(0, .ref (q 0)), (1, .int a1), (2, .int a2), (3, .int s37.1), (4, .int ((gR u 5) (a1.toNatClampNeg))), (5, .int s37.2.1)] → (∀ (H : Heap) (locs : List Loc) (ls : Array Slot), va_P D vwCl (WM q cy e37.2 ++ rest) H → va_D A (WM q cy e37.2 ++ rest) → va_S A s.heap H locs → lv_has ls 7 [(0, .ref (q 0)), (1, .int a1), (3, .int e37.1), (4, .int ((gR u 5) (a1.toNatClampNeg)))] → W p l e rmX6_adds s m ([.ref (q 0), .int a1, .int a2] : List Value).toArray below meth c H locs 0 0 (MQ below (kQv D A (WM q cy res ++ rest)) ([.ref (q 0), .int a1, .int a2] : List Value).toArray s 0 0 A) (F0 m 102 ls [])) → W p l e rmX6_adds s m ([.ref (q 0), .int a1, .int a2] : List Value).toArray below meth c H locs 0 0 (MQ below (kQv D A (WM q cy res ++ rest)) ([.ref (q 0), .int a1, .int a2] : List Value).toArray s 0 0 A) (F0 m 37 ls []) := by
      intro n37v
      induction n37v with
      | zero => intro s37 e37 h; exact (lpO_z h).elim
      | succ n37v ih37 =>
        intro s37 e37 h37z H locs ls hP hD hS hl K37_0
        obtain ⟨x37, hf, h37z⟩ := lpO_s h37z
        unfold mX6_adds_s37 at hf
        refine lv_iload hx hb dX6_adds_37 (lv_at hl 5 rfl) ?_
        refine lv_iload hx hb dX6_adds_39 (lv_at hl 4 rfl) ?_
        refine lv_icmp_ge (tgt := 102) hx hb dX6_adds_41 (by decide) (fun c41 => ?_) (fun c41 => ?_)
        · have hf := o_ip c41 hf
          obtain rfl := o_ret hf
          obtain rfl := lpK_l h37z
          exact K37_0 _ _ _ hP hD hS (lv_sub hl [0, 1, 3, 4] rfl)
        · have hf := o_in c41 hf
          refine lv_aload_n hx hb dX6_adds_44 rfl (lv_at hl 0 rfl) ?_
          refine va_get (ci := 6) (v := .ref (q 5)) (C := RX6) (T := TX6) (N := 26) hx hb hts inlX6 hown hE.1 hP 0 rfl rfl 5 (by decide) (hts _ wB88) (fun _ h9 => h9) rfl dX6_adds_45 ?_
          refine lv_bipush (v := 12) hx hb dX6_adds_48 (by decide) ?_
          refine lv_iload_n hx hb dX6_adds_50 rfl (lv_at hl 1 rfl) ?_
          refine lv_imul hx hb dX6_adds_51 ?_
          refine lv_iload hx hb dX6_adds_52 (lv_at hl 5 rfl) ?_
          refine lv_iadd hx hb dX6_adds_54 ?_
          obtain ⟨hg55, hf⟩ := gd_s hf
          refine va_iald (f := (gR s37.2.2 4)) hx hb hE.1 hP 5 0 rfl rfl hg55 dX6_adds_55 ?_
          refine lv_aload_n hx hb dX6_adds_56 rfl (lv_at hl 0 rfl) ?_
          refine va_get (ci := 6) (v := .ref (q 5)) (C := RX6) (T := TX6) (N := 26) hx hb hts inlX6 hown hE.1 hP 0 rfl rfl 5 (by decide) (hts _ wB88) (fun _ h9 => h9) rfl dX6_adds_57 ?_
          refine lv_bipush (v := 12) hx hb dX6_adds_60 (by decide) ?_
          refine lv_iload_n hx hb dX6_adds_62 rfl (lv_at hl 2 rfl) ?_
          refine lv_imul hx hb dX6_adds_63 ?_
          refine lv_iload hx hb dX6_adds_64 (lv_at hl 5 rfl) ?_
          refine lv_iadd hx hb dX6_adds_66 ?_
          obtain ⟨hg67, hf⟩ := gd_s hf
          refine va_iald (f := (gR s37.2.2 4)) hx hb hE.1 hP 5 0 rfl rfl hg67 dX6_adds_67 ?_
          refine lv_iadd hx hb dX6_adds_68 ?_
          refine lv_iload_n hx hb dX6_adds_69 rfl (lv_at hl 3 rfl) ?_
          refine lv_iadd hx hb dX6_adds_70 ?_
          refine lv_istore (lv' := [(6, .int ((((gR s37.2.2 4) (((12 * a1) + s37.2.1).toNatClampNeg)) + ((gR s37.2.2 4) (((12 * a2) + s37.2.1).toNatClampNeg))) + s37.1)), (0, .ref (q 0)), (1, .int a1), (2, .int a2), (3, .int s37.1), (4, .int ((gR u 5) (a1.toNatClampNeg))), (5, .int s37.2.1)]) hx hb dX6_adds_71 hl (by decide) rfl (fun ls hl => ?_)
          refine lv_aload_n hx hb dX6_adds_73 rfl (lv_at hl 1 rfl) ?_
          refine va_get (ci := 6) (v := .ref (q 5)) (C := RX6) (T := TX6) (N := 26) hx hb hts inlX6 hown hE.1 hP 0 rfl rfl 5 (by decide) (hts _ wB88) (fun _ h9 => h9) rfl dX6_adds_74 ?_
          refine lv_bipush (v := 12) hx hb dX6_adds_77 (by decide) ?_
          refine lv_iload_n hx hb dX6_adds_79 rfl (lv_at hl 2 rfl) ?_
          refine lv_imul hx hb dX6_adds_80 ?_
          refine lv_iload hx hb dX6_adds_81 (lv_at hl 6 rfl) ?_
          refine lv_iadd hx hb dX6_adds_83 ?_
          refine lv_iload hx hb dX6_adds_84 (lv_at hl 0 rfl) ?_
          refine lv_ldc (v := 1073741823) hx hb hown (hts _ wB609) dX6_adds_86 ?_
          refine lv_iand hx hb dX6_adds_88 ?_
          obtain ⟨hg89, hf⟩ := gd_s hf
          refine va_iast (f := (gR s37.2.2 4)) hx hb hE.1 hP hD hS 5 0 rfl rfl hg89 dX6_adds_89 (fun H locs hP hD hS => ?_)
          have hP : va_P D vwCl (WM q cy (sR s37.2.2 4 (upd (gR s37.2.2 4) (((12 * a1) + s37.2.1).toNatClampNeg) (((((gR s37.2.2 4) (((12 * a1) + s37.2.1).toNatClampNeg)) + ((gR s37.2.2 4) (((12 * a2) + s37.2.1).toNatClampNeg))) + s37.1) &&& 1073741823))) ++ rest) H := hP
          have hD : va_D A (WM q cy (sR s37.2.2 4 (upd (gR s37.2.2 4) (((12 * a1) + s37.2.1).toNatClampNeg) (((((gR s37.2.2 4) (((12 * a1) + s37.2.1).toNatClampNeg)) + ((gR s37.2.2 4) (((12 * a2) + s37.2.1).toNatClampNeg))) + s37.1) &&& 1073741823))) ++ rest) := hD
          refine lv_iload hx hb dX6_adds_90 (lv_at hl 0 rfl) ?_
          refine lv_bipush (v := 30) hx hb dX6_adds_92 (by decide) ?_
          refine lv_iushr (v := (((((gR s37.2.2 4) (((12 * a1) + s37.2.1).toNatClampNeg)) + ((gR s37.2.2 4) (((12 * a2) + s37.2.1).toNatClampNeg))) + s37.1).toUInt32 >>> ((30 : Int32).toUInt32 &&& Int32.toUInt32 31)).toInt32) hx hb dX6_adds_94 rfl ?_
          refine lv_istore_n (lv' := [(3, .int ((((((gR s37.2.2 4) (((12 * a1) + s37.2.1).toNatClampNeg)) + ((gR s37.2.2 4) (((12 * a2) + s37.2.1).toNatClampNeg))) + s37.1).toUInt32 >>> ((30 : Int32).toUInt32 &&& Int32.toUInt32 31)).toInt32)), (6, .int ((((gR s37.2.2 4) (((12 * a1) + s37.2.1).toNatClampNeg)) + ((gR s37.2.2 4) (((12 * a2) + s37.2.1).toNatClampNeg))) + s37.1)), (0, .ref (q 0)), (1, .int a1), (2, .int a2), (4, .int ((gR u 5) (a1.toNatClampNeg))), (5, .int s37.2.1)]) hx hb dX6_adds_95 rfl hl (by decide) rfl (fun ls hl => ?_)
          refine lv_iinc (v := (s37.2.1 + 1)) (lv' := [(5, .int (s37.2.1 + 1)), (3, .int ((((((gR s37.2.2 4) (((12 * a1) + s37.2.1).toNatClampNeg)) + ((gR s37.2.2 4) (((12 * a2) + s37.2.1).toNatClampNeg))) + s37.1).toUInt32 >>> ((30 : Int32).toUInt32 &&& Int32.toUInt32 31)).toInt32)), (6, .int ((((gR s37.2.2 4) (((12 * a1) + s37.2.1).toNatClampNeg)) + ((gR s37.2.2 4) (((12 * a2) + s37.2.1).toNatClampNeg))) + s37.1)), (0, .ref (q 0)), (1, .int a1), (2, .int a2), (4, .int ((gR u 5) (a1.toNatClampNeg)))]) hx hb dX6_adds_96 hl (k := 6) rfl (by rfl) (by decide) rfl (fun ls hl => ?_)
          refine lv_goto (tgt := 37) hx hb dX6_adds_99 (by decide) ?_
          obtain rfl := o_ret hf
          exact ih37 _ _ (lpK_r h37z) _ _ _ hP hD hS (lv_sub hl [3, 4, 5, 1, 6, 0] rfl) K37_0
    obtain ⟨e37, h37q, hf⟩ := o_bs hf
    obtain ⟨n37v, h37q⟩ := lpF_ex h37q
    refine L37 n37v _ e37 h37q _ _ _ hP hD hS (lv_sub hl [3, 4, 5, 2, 1, 0] rfl) ?_
    intro H locs ls hP hD hS hl
    refine lv_aload_n hx hb dX6_adds_102 rfl (lv_at hl 0 rfl) ?_
    refine va_get (ci := 6) (v := .ref (q 5)) (C := RX6) (T := TX6) (N := 26) hx hb hts inlX6 hown hE.1 hP 0 rfl rfl 5 (by decide) (hts _ wB88) (fun _ h9 => h9) rfl dX6_adds_103 ?_
    refine lv_bipush (v := 12) hx hb dX6_adds_106 (by decide) ?_
    refine lv_iload_n hx hb dX6_adds_108 rfl (lv_at hl 1 rfl) ?_
    refine lv_imul hx hb dX6_adds_109 ?_
    refine lv_iload hx hb dX6_adds_110 (lv_at hl 3 rfl) ?_
    refine lv_iadd hx hb dX6_adds_112 ?_
    refine lv_iload_n hx hb dX6_adds_113 rfl (lv_at hl 2 rfl) ?_
    obtain ⟨hg114, hf⟩ := gd_s hf
    refine va_iast (f := (gR e37.2 4)) hx hb hE.1 hP hD hS 5 0 rfl rfl hg114 dX6_adds_114 (fun H locs hP hD hS => ?_)
    have hP : va_P D vwCl (WM q cy (sR e37.2 4 (upd (gR e37.2 4) (((12 * a1) + ((gR u 5) (a1.toNatClampNeg))).toNatClampNeg) e37.1)) ++ rest) H := hP
    have hD : va_D A (WM q cy (sR e37.2 4 (upd (gR e37.2 4) (((12 * a1) + ((gR u 5) (a1.toNatClampNeg))).toNatClampNeg) e37.1)) ++ rest) := hD
    refine lv_aload_n hx hb dX6_adds_115 rfl (lv_at hl 0 rfl) ?_
    refine va_get (ci := 6) (v := .ref (q 6)) (C := RX6) (T := TX6) (N := 26) hx hb hts inlX6 hown hE.1 hP 0 rfl rfl 6 (by decide) (hts _ wB89) (fun _ h9 => h9) rfl dX6_adds_116 ?_
    refine lv_iload_n hx hb dX6_adds_119 rfl (lv_at hl 1 rfl) ?_
    refine lv_iload hx hb dX6_adds_120 (lv_at hl 3 rfl) ?_
    refine lv_iload_n hx hb dX6_adds_122 rfl (lv_at hl 2 rfl) ?_
    refine lv_iadd hx hb dX6_adds_123 ?_
    obtain ⟨hg124, hf⟩ := gd_s hf
    refine va_iast (f := (gR e37.2 5)) hx hb hE.1 hP hD hS 6 0 rfl rfl hg124 dX6_adds_124 (fun H locs hP hD hS => ?_)
    have hQ : ∀ (xb : KS) (x0 : (Nat → Int32)) (xn : (Nat → Int32)), (WM q cy (sR xb 4 x0) ++ rest).set 6 (q 6, .inl (cy 0, 7, .inl xn)) = WM q cy (sR (sR xb 4 x0) 5 xn) ++ rest := fun _ _ _ => rfl
    have hP : va_P D vwCl (WM q cy (sR (sR e37.2 4 (upd (gR e37.2 4) (((12 * a1) + ((gR u 5) (a1.toNatClampNeg))).toNatClampNeg) e37.1)) 5 (upd (gR e37.2 5) (a1.toNatClampNeg) (((gR u 5) (a1.toNatClampNeg)) + e37.1))) ++ rest) H := k_wP (hQ e37.2 (upd (gR e37.2 4) (((12 * a1) + ((gR u 5) (a1.toNatClampNeg))).toNatClampNeg) e37.1) (upd (gR e37.2 5) (a1.toNatClampNeg) (((gR u 5) (a1.toNatClampNeg)) + e37.1))) hP
    have hD : va_D A (WM q cy (sR (sR e37.2 4 (upd (gR e37.2 4) (((12 * a1) + ((gR u 5) (a1.toNatClampNeg))).toNatClampNeg) e37.1)) 5 (upd (gR e37.2 5) (a1.toNatClampNeg) (((gR u 5) (a1.toNatClampNeg)) + e37.1))) ++ rest) := k_wD (hQ e37.2 (upd (gR e37.2 4) (((12 * a1) + ((gR u 5) (a1.toNatClampNeg))).toNatClampNeg) e37.1) (upd (gR e37.2 5) (a1.toNatClampNeg) (((gR u 5) (a1.toNatClampNeg)) + e37.1))) hD
    clear hQ
    refine lv_aload_n hx hb dX6_adds_125 rfl (lv_at hl 0 rfl) ?_
    refine lv_iload_n hx hb dX6_adds_126 rfl (lv_at hl 1 rfl) ?_
    obtain ⟨r127, h127r, hf⟩ := o_bs hf
    refine k_gov (va_runV (As := [.int a1]) (rest := []) ⟨hx, hb, hml, hown, hts⟩ (zX6_trims l D cy sa q rest H.size (sR (sR e37.2 4 (upd (gR e37.2 4) (((12 * a1) + ((gR u 5) (a1.toNatClampNeg))).toNatClampNeg) e37.1)) 5 (upd (gR e37.2 5) (a1.toNatClampNeg) (((gR u 5) (a1.toNatClampNeg)) + e37.1))) a1 r127 h127r) (cwV 1 hts (gB_V wB103 wB104 wB105 wB5 wB106) rfl rfl rfl (by decide +kernel) ⟨Nat.le_of_ble_eq_true rfl, Nat.le_of_ble_eq_true rfl⟩) ⟨kP.blind, k_recv hE hP (ci := 6) (q0 := 0) rfl rfl, k_pre hP hD hS hE hA⟩ rfl rfl hl.1 rfl (lv_room (Nat.le_of_ble_eq_true rfl)) dX6_adds_127 ⟨Nat.zero_le _, Nat.zero_le _⟩) hD hS hA (fun H locs hP hD hS => ?_)
    obtain rfl := o_ret hf
    exact k_vret hx hb hr hP hD hS (Nat.zero_le _) (Nat.zero_le _) hlocks dX6_adds_130
noncomputable def mX6_against_s45 (u : KS) (c1 : Int32) (c2 : Int32) (s45 : Int32) : Option ((Unit ⊕ Int32) ⊕ (Int32)) :=
  if s45 < 0 then
  (some (.inl (.inl ())))
  else
  (gd (inb ((12 * c1) + s45) 84) (gd (inb ((12 * c2) + s45) 84) (if ((gR u 4) (((12 * c1) + s45).toNatClampNeg)) = ((gR u 4) (((12 * c2) + s45).toNatClampNeg)) then
  (some (.inr (s45 + (-1))))
  else
  (some (.inl (.inr s45))))))
noncomputable def mX6_against (u : KS) (a1 : Int32) (a2 : Int32) : Option (Int32) :=
  gd (inb a1 7) (gd (inb a2 7) (if ((gR u 5) (a1.toNatClampNeg)) = ((gR u 5) (a2.toNatClampNeg)) then
  (gd (inb a1 7) ((lpF (mX6_against_s45 u a1 a2) (((gR u 5) (a1.toNatClampNeg)) - 1)).bind (oE (fun e45_0 => some 0) (fun e45_1 => gd (inb ((12 * a1) + e45_1) 84) (gd (inb ((12 * a2) + e45_1) 84) (if ((gR u 4) (((12 * a2) + e45_1).toNatClampNeg)) ≤ ((gR u 4) (((12 * a1) + e45_1).toNatClampNeg)) then
  (some 1)
  else
  (some (-1))))))))
  else
  (gd (inb a1 7) (gd (inb a2 7) (if ((gR u 5) (a2.toNatClampNeg)) ≤ ((gR u 5) (a1.toNatClampNeg)) then
  (some 1)
  else
  (some (-1)))))))
abbrev rmX6_against : Room := { frames := 0, cells := 0, slots := 0, locals := 0 }
set_option maxRecDepth 100000 in
set_option maxHeartbeats 4000000 in
theorem zX6_against (l : Launch) (D : va_G) (cy : Nat → ClassId) (sa : Nat → Nat) (q : Nat → Nat) (rest : va_W) (sz : Nat) (u : KS) (a1 : Int32) (a2 : Int32) (res : Int32) (hf : mX6_against u a1 a2 = some res) : kMi l yX6_against (wsK yX6_against cX6_against 4 (some .int)) rmX6_against D cy sa (WM q cy u ++ rest) sz [.ref (q 0), .int a1, .int a2] res (WM q cy u ++ rest) 0 0 := by
  refine kM_of (Qc := fun A => kQi D A res (WM q cy u ++ rest)) (cc := cX6_against) (maxL := 4) (ret := (some .int)) (by decide) (Nat.le_of_ble_eq_true rfl) ?_
  intro p e s m below meth c A hx hb hml hr hts hown hlocks hin hA hP hD hS hE hsz ls hl
  have hown : s.vm.findClass RX6 = some m.cls := hown
  obtain ⟨H, hH0⟩ : ∃ H, H = s.heap := ⟨_, rfl⟩
  obtain ⟨locs, hlocs0⟩ : ∃ locs : List Loc, locs = [] := ⟨_, rfl⟩
  have hP : va_P D vwCl (WM q cy u ++ rest) H := by rw [hH0]; exact hP
  have hS : va_S A s.heap H locs := by rw [hH0, hlocs0]; exact hS
  have hl : lv_has ls 4 [(0, .ref (q 0)), (1, .int a1), (2, .int a2)] := hl
  suffices hgoal : W p l e rmX6_against s m ([.ref (q 0), .int a1, .int a2] : List Value).toArray below meth c H locs 0 0 (MQ below (kQi D A res (WM q cy u ++ rest)) ([.ref (q 0), .int a1, .int a2] : List Value).toArray s 0 0 A) (F0 m 0 ls []) by rw [hH0, hlocs0] at hgoal; exact hgoal
  clear hH0 hlocs0
  unfold mX6_against at hf
  refine lv_aload_n hx hb dX6_against_0 rfl (lv_at hl 0 rfl) ?_
  refine va_get (ci := 6) (v := .ref (q 6)) (C := RX6) (T := TX6) (N := 26) hx hb hts inlX6 hown hE.1 hP 0 rfl rfl 6 (by decide) (hts _ wB89) (fun _ h9 => h9) rfl dX6_against_1 ?_
  refine lv_iload_n hx hb dX6_against_4 rfl (lv_at hl 1 rfl) ?_
  obtain ⟨hg5, hf⟩ := gd_s hf
  refine va_iald (f := (gR u 5)) hx hb hE.1 hP 6 0 rfl rfl hg5 dX6_against_5 ?_
  refine lv_aload_n hx hb dX6_against_6 rfl (lv_at hl 0 rfl) ?_
  refine va_get (ci := 6) (v := .ref (q 6)) (C := RX6) (T := TX6) (N := 26) hx hb hts inlX6 hown hE.1 hP 0 rfl rfl 6 (by decide) (hts _ wB89) (fun _ h9 => h9) rfl dX6_against_7 ?_
  refine lv_iload_n hx hb dX6_against_10 rfl (lv_at hl 2 rfl) ?_
  obtain ⟨hg11, hf⟩ := gd_s hf
  refine va_iald (f := (gR u 5)) hx hb hE.1 hP 6 0 rfl rfl hg11 dX6_against_11 ?_
  refine lv_icmp_eq (tgt := 36) hx hb dX6_against_12 (by decide) (fun c12 => ?_) (fun c12 => ?_)
  · have hf := o_ip c12 hf
    refine lv_aload_n hx hb dX6_against_36 rfl (lv_at hl 0 rfl) ?_
    refine va_get (ci := 6) (v := .ref (q 6)) (C := RX6) (T := TX6) (N := 26) hx hb hts inlX6 hown hE.1 hP 0 rfl rfl 6 (by decide) (hts _ wB89) (fun _ h9 => h9) rfl dX6_against_37 ?_
    refine lv_iload_n hx hb dX6_against_40 rfl (lv_at hl 1 rfl) ?_
    obtain ⟨hg41, hf⟩ := gd_s hf
    refine va_iald (f := (gR u 5)) hx hb hE.1 hP 6 0 rfl rfl hg41 dX6_against_41 ?_
    refine lv_iconst (v := 1) hx hb dX6_against_42 (by decide) ?_
    refine lv_isub hx hb dX6_against_43 ?_
    refine lv_istore_n (lv' := [(3, .int (((gR u 5) (a1.toNatClampNeg)) - 1)), (0, .ref (q 0)), (1, .int a1), (2, .int a2)]) hx hb dX6_against_44 rfl hl (by decide) rfl (fun ls hl => ?_)
    have L45 : ∀ (n45v : Nat) (s45 : Int32) (e45 : Unit ⊕ Int32), lpO (mX6_against_s45 u a1 a2) n45v s45 = some e45 → ∀ (H : Heap) (locs : List Loc) (ls : Array Slot), va_P D vwCl (WM q cy u ++ rest) H → va_D A (WM q cy u ++ rest) → va_S A s.heap H locs → lv_has ls 4 [(0, .ref (q 0)), (1, .int a1), (2, .int a2), (3, .int s45)] → (∀ e45_0 : Unit, e45 = (.inl e45_0) → ∀ (H : Heap) (locs : List Loc) (ls : Array Slot), va_P D vwCl (WM q cy u ++ rest) H → va_D A (WM q cy u ++ rest) → va_S A s.heap H locs → lv_has ls 4 [] → W p l e rmX6_against s m ([.ref (q 0), .int a1, .int a2] : List Value).toArray below meth c H locs 0 0 (MQ below (kQi D A res (WM q cy u ++ rest)) ([.ref (q 0), .int a1, .int a2] : List Value).toArray s 0 0 A) (F0 m 111 ls [])) → (∀ e45_1 : Int32, e45 = (.inr e45_1) → ∀ (H : Heap) (locs : List Loc) (ls : Array Slot), va_P D vwCl (WM q cy u ++ rest) H → va_D A (WM q cy u ++ rest) → va_S A s.heap H locs → lv_has ls 4 [(0, .ref (q 0)), (1, .int a1), (2, .int a2), (3, .int e45_1)] → W p l e rmX6_against s m ([.ref (q 0), .int a1, .int a2] : List Value).toArray below meth c H locs 0 0 (MQ below (kQi D A res (WM q cy u ++ rest)) ([.ref (q 0), .int a1, .int a2] : List Value).toArray s 0 0 A) (F0 m 74 ls [])) → W p l e rmX6_against s m ([.ref (q 0), .int a1, .int a2] : List Value).toArray below meth c H locs 0 0 (MQ below (kQi D A res (WM q cy u ++ rest)) ([.ref (q 0), .int a1, .int a2] : List Value).toArray s 0 0 A) (F0 m 45 ls []) := by
      intro n45v
      induction n45v with
      | zero => intro s45 e45 h; exact (lpO_z h).elim
      | succ n45v ih45 =>
        intro s45 e45 h45z H locs ls hP hD hS hl K45_0 K45_1
        obtain ⟨x45, hf, h45z⟩ := lpO_s h45z
        unfold mX6_against_s45 at hf
        refine lv_iload_n hx hb dX6_against_45 rfl (lv_at hl 3 rfl) ?_
        refine lv_if_lt (tgt := 111) hx hb dX6_against_46 (by decide) (fun c46 => ?_) (fun c46 => ?_)
        · have hf := o_ip c46 hf
          obtain rfl := o_ret hf
          obtain rfl := lpK_l h45z
          exact K45_0 _ rfl _ _ _ hP hD hS (lv_sub hl [] rfl)
        · have hf := o_in c46 hf
          refine lv_aload_n hx hb dX6_against_49 rfl (lv_at hl 0 rfl) ?_
          refine va_get (ci := 6) (v := .ref (q 5)) (C := RX6) (T := TX6) (N := 26) hx hb hts inlX6 hown hE.1 hP 0 rfl rfl 5 (by decide) (hts _ wB88) (fun _ h9 => h9) rfl dX6_against_50 ?_
          refine lv_bipush (v := 12) hx hb dX6_against_53 (by decide) ?_
          refine lv_iload_n hx hb dX6_against_55 rfl (lv_at hl 1 rfl) ?_
          refine lv_imul hx hb dX6_against_56 ?_
          refine lv_iload_n hx hb dX6_against_57 rfl (lv_at hl 3 rfl) ?_
          refine lv_iadd hx hb dX6_against_58 ?_
          obtain ⟨hg59, hf⟩ := gd_s hf
          refine va_iald (f := (gR u 4)) hx hb hE.1 hP 5 0 rfl rfl hg59 dX6_against_59 ?_
          refine lv_aload_n hx hb dX6_against_60 rfl (lv_at hl 0 rfl) ?_
          refine va_get (ci := 6) (v := .ref (q 5)) (C := RX6) (T := TX6) (N := 26) hx hb hts inlX6 hown hE.1 hP 0 rfl rfl 5 (by decide) (hts _ wB88) (fun _ h9 => h9) rfl dX6_against_61 ?_
          refine lv_bipush (v := 12) hx hb dX6_against_64 (by decide) ?_
          refine lv_iload_n hx hb dX6_against_66 rfl (lv_at hl 2 rfl) ?_
          refine lv_imul hx hb dX6_against_67 ?_
          refine lv_iload_n hx hb dX6_against_68 rfl (lv_at hl 3 rfl) ?_
          refine lv_iadd hx hb dX6_against_69 ?_
          obtain ⟨hg70, hf⟩ := gd_s hf
          refine va_iald (f := (gR u 4)) hx hb hE.1 hP 5 0 rfl rfl hg70 dX6_against_70 ?_
          refine lv_icmp_eq (tgt := 105) hx hb dX6_against_71 (by decide) (fun c71 => ?_) (fun c71 => ?_)
          · have hf := o_ip c71 hf
            refine lv_iinc (v := (s45 + (-1))) (lv' := [(3, .int (s45 + (-1))), (0, .ref (q 0)), (1, .int a1), (2, .int a2)]) hx hb dX6_against_105 hl (k := 3) rfl (by rfl) (by decide) rfl (fun ls hl => ?_)
            refine lv_goto (tgt := 45) hx hb dX6_against_108 (by decide) ?_
            obtain rfl := o_ret hf
            exact ih45 _ _ (lpK_r h45z) _ _ _ hP hD hS (lv_sub hl [1, 2, 3, 0] rfl) K45_0 K45_1
          · have hf := o_in c71 hf
            obtain rfl := o_ret hf
            obtain rfl := lpK_l h45z
            exact K45_1 _ rfl _ _ _ hP hD hS (lv_sub hl [0, 1, 2, 3] rfl)
    obtain ⟨e45, h45q, hf⟩ := o_bs hf
    obtain ⟨n45v, h45q⟩ := lpF_ex h45q
    refine L45 n45v _ e45 h45q _ _ _ hP hD hS (lv_sub hl [1, 2, 3, 0] rfl) ?_ ?_
    · intro e45_0 ez45 H locs ls hP hD hS hl
      subst ez45
      have hf := oE_l hf
      refine lv_iconst (v := 0) hx hb dX6_against_111 (by decide) ?_
      obtain rfl := o_ret hf
      exact k_iret hx hb hr hP hD hS (Nat.zero_le _) (Nat.zero_le _) hlocks dX6_against_112
    · intro e45_1 ez45 H locs ls hP hD hS hl
      subst ez45
      have hf := oE_r hf
      refine lv_aload_n hx hb dX6_against_74 rfl (lv_at hl 0 rfl) ?_
      refine va_get (ci := 6) (v := .ref (q 5)) (C := RX6) (T := TX6) (N := 26) hx hb hts inlX6 hown hE.1 hP 0 rfl rfl 5 (by decide) (hts _ wB88) (fun _ h9 => h9) rfl dX6_against_75 ?_
      refine lv_bipush (v := 12) hx hb dX6_against_78 (by decide) ?_
      refine lv_iload_n hx hb dX6_against_80 rfl (lv_at hl 1 rfl) ?_
      refine lv_imul hx hb dX6_against_81 ?_
      refine lv_iload_n hx hb dX6_against_82 rfl (lv_at hl 3 rfl) ?_
      refine lv_iadd hx hb dX6_against_83 ?_
      obtain ⟨hg84, hf⟩ := gd_s hf
      refine va_iald (f := (gR u 4)) hx hb hE.1 hP 5 0 rfl rfl hg84 dX6_against_84 ?_
      refine lv_aload_n hx hb dX6_against_85 rfl (lv_at hl 0 rfl) ?_
      refine va_get (ci := 6) (v := .ref (q 5)) (C := RX6) (T := TX6) (N := 26) hx hb hts inlX6 hown hE.1 hP 0 rfl rfl 5 (by decide) (hts _ wB88) (fun _ h9 => h9) rfl dX6_against_86 ?_
      refine lv_bipush (v := 12) hx hb dX6_against_89 (by decide) ?_
      refine lv_iload_n hx hb dX6_against_91 rfl (lv_at hl 2 rfl) ?_
      refine lv_imul hx hb dX6_against_92 ?_
      refine lv_iload_n hx hb dX6_against_93 rfl (lv_at hl 3 rfl) ?_
      refine lv_iadd hx hb dX6_against_94 ?_
      obtain ⟨hg95, hf⟩ := gd_s hf
      refine va_iald (f := (gR u 4)) hx hb hE.1 hP 5 0 rfl rfl hg95 dX6_against_95 ?_
      refine lv_icmp_ge (tgt := 103) hx hb dX6_against_96 (by decide) (fun c96 => ?_) (fun c96 => ?_)
      · have hf := o_ip c96 hf
        refine lv_iconst (v := 1) hx hb dX6_against_103 (by decide) ?_
        obtain rfl := o_ret hf
        exact k_iret hx hb hr hP hD hS (Nat.zero_le _) (Nat.zero_le _) hlocks dX6_against_104
      · have hf := o_in c96 hf
        refine lv_iconst (v := (-1)) hx hb dX6_against_99 (by decide) ?_
        refine lv_goto (tgt := 104) hx hb dX6_against_100 (by decide) ?_
        obtain rfl := o_ret hf
        exact k_iret hx hb hr hP hD hS (Nat.zero_le _) (Nat.zero_le _) hlocks dX6_against_104
  · have hf := o_in c12 hf
    refine lv_aload_n hx hb dX6_against_15 rfl (lv_at hl 0 rfl) ?_
    refine va_get (ci := 6) (v := .ref (q 6)) (C := RX6) (T := TX6) (N := 26) hx hb hts inlX6 hown hE.1 hP 0 rfl rfl 6 (by decide) (hts _ wB89) (fun _ h9 => h9) rfl dX6_against_16 ?_
    refine lv_iload_n hx hb dX6_against_19 rfl (lv_at hl 1 rfl) ?_
    obtain ⟨hg20, hf⟩ := gd_s hf
    refine va_iald (f := (gR u 5)) hx hb hE.1 hP 6 0 rfl rfl hg20 dX6_against_20 ?_
    refine lv_aload_n hx hb dX6_against_21 rfl (lv_at hl 0 rfl) ?_
    refine va_get (ci := 6) (v := .ref (q 6)) (C := RX6) (T := TX6) (N := 26) hx hb hts inlX6 hown hE.1 hP 0 rfl rfl 6 (by decide) (hts _ wB89) (fun _ h9 => h9) rfl dX6_against_22 ?_
    refine lv_iload_n hx hb dX6_against_25 rfl (lv_at hl 2 rfl) ?_
    obtain ⟨hg26, hf⟩ := gd_s hf
    refine va_iald (f := (gR u 5)) hx hb hE.1 hP 6 0 rfl rfl hg26 dX6_against_26 ?_
    refine lv_icmp_ge (tgt := 34) hx hb dX6_against_27 (by decide) (fun c27 => ?_) (fun c27 => ?_)
    · have hf := o_ip c27 hf
      refine lv_iconst (v := 1) hx hb dX6_against_34 (by decide) ?_
      obtain rfl := o_ret hf
      exact k_iret hx hb hr hP hD hS (Nat.zero_le _) (Nat.zero_le _) hlocks dX6_against_35
    · have hf := o_in c27 hf
      refine lv_iconst (v := (-1)) hx hb dX6_against_30 (by decide) ?_
      refine lv_goto (tgt := 35) hx hb dX6_against_31 (by decide) ?_
      obtain rfl := o_ret hf
      exact k_iret hx hb hr hP hD hS (Nat.zero_le _) (Nat.zero_le _) hlocks dX6_against_35
noncomputable def mX6_refuses (u : KS) (a1 : Int32) (a2 : Int32) : Option (Int32 × KS) :=
  gd (inb a1 3) (gd (inb a1 3) (some (a2, (sR u 3 (upd (gR u 3) (a1.toNatClampNeg) (((gR u 3) (a1.toNatClampNeg)) + 1))))))
abbrev rmX6_refuses : Room := { frames := 0, cells := 0, slots := 0, locals := 0 }
set_option maxRecDepth 100000 in
set_option maxHeartbeats 4000000 in
theorem zX6_refuses (l : Launch) (D : va_G) (cy : Nat → ClassId) (sa : Nat → Nat) (q : Nat → Nat) (rest : va_W) (sz : Nat) (u : KS) (a1 : Int32) (a2 : Int32) (res : Int32 × KS) (hf : mX6_refuses u a1 a2 = some res) : kMi l yX6_refuses (wsK yX6_refuses cX6_refuses 3 (some .int)) rmX6_refuses D cy sa (WM q cy u ++ rest) sz [.ref (q 0), .int a1, .int a2] res.1 (WM q cy res.2 ++ rest) 0 0 := by
  refine kM_of (Qc := fun A => kQi D A res.1 (WM q cy res.2 ++ rest)) (cc := cX6_refuses) (maxL := 3) (ret := (some .int)) (by decide) (Nat.le_of_ble_eq_true rfl) ?_
  intro p e s m below meth c A hx hb hml hr hts hown hlocks hin hA hP hD hS hE hsz ls hl
  have hown : s.vm.findClass RX6 = some m.cls := hown
  obtain ⟨H, hH0⟩ : ∃ H, H = s.heap := ⟨_, rfl⟩
  obtain ⟨locs, hlocs0⟩ : ∃ locs : List Loc, locs = [] := ⟨_, rfl⟩
  have hP : va_P D vwCl (WM q cy u ++ rest) H := by rw [hH0]; exact hP
  have hS : va_S A s.heap H locs := by rw [hH0, hlocs0]; exact hS
  have hl : lv_has ls 3 [(0, .ref (q 0)), (1, .int a1), (2, .int a2)] := hl
  suffices hgoal : W p l e rmX6_refuses s m ([.ref (q 0), .int a1, .int a2] : List Value).toArray below meth c H locs 0 0 (MQ below (kQi D A res.1 (WM q cy res.2 ++ rest)) ([.ref (q 0), .int a1, .int a2] : List Value).toArray s 0 0 A) (F0 m 0 ls []) by rw [hH0, hlocs0] at hgoal; exact hgoal
  clear hH0 hlocs0
  unfold mX6_refuses at hf
  refine lv_aload_n hx hb dX6_refuses_0 rfl (lv_at hl 0 rfl) ?_
  refine va_get (ci := 6) (v := .ref (q 4)) (C := RX6) (T := TX6) (N := 26) hx hb hts inlX6 hown hE.1 hP 0 rfl rfl 3 (by decide) (hts _ wB87) (fun _ h9 => h9) rfl dX6_refuses_1 ?_
  refine lv_iload_n hx hb dX6_refuses_4 rfl (lv_at hl 1 rfl) ?_
  refine lv_dup2_11 hx hb dX6_refuses_5 rfl rfl ?_
  obtain ⟨hg6, hf⟩ := gd_s hf
  refine va_iald (f := (gR u 3)) hx hb hE.1 hP 4 0 rfl rfl hg6 dX6_refuses_6 ?_
  refine lv_iconst (v := 1) hx hb dX6_refuses_7 (by decide) ?_
  refine lv_iadd hx hb dX6_refuses_8 ?_
  obtain ⟨hg9, hf⟩ := gd_s hf
  refine va_iast (f := (gR u 3)) hx hb hE.1 hP hD hS 4 0 rfl rfl hg9 dX6_refuses_9 (fun H locs hP hD hS => ?_)
  have hP : va_P D vwCl (WM q cy (sR u 3 (upd (gR u 3) (a1.toNatClampNeg) (((gR u 3) (a1.toNatClampNeg)) + 1))) ++ rest) H := hP
  have hD : va_D A (WM q cy (sR u 3 (upd (gR u 3) (a1.toNatClampNeg) (((gR u 3) (a1.toNatClampNeg)) + 1))) ++ rest) := hD
  refine lv_iload_n hx hb dX6_refuses_10 rfl (lv_at hl 2 rfl) ?_
  obtain rfl := o_ret hf
  exact k_iret hx hb hr hP hD hS (Nat.zero_le _) (Nat.zero_le _) hlocks dX6_refuses_11
noncomputable def mX6_bad (u : KS) : Option (Int32 × KS) :=
  (mX6_refuses u 0 (-2)).bind fun r4 =>
  some (r4.1, r4.2)
abbrev rmX6_bad : Room := { frames := 1, cells := 0, slots := 0, locals := 22 }
set_option maxRecDepth 100000 in
set_option maxHeartbeats 4000000 in
theorem zX6_bad (l : Launch) (D : va_G) (cy : Nat → ClassId) (sa : Nat → Nat) (q : Nat → Nat) (rest : va_W) (sz : Nat) (u : KS) (res : Int32 × KS) (hf : mX6_bad u = some res) : kMi l yX6_bad (wsK yX6_bad cX6_bad 1 (some .int)) rmX6_bad D cy sa (WM q cy u ++ rest) sz [.ref (q 0)] res.1 (WM q cy res.2 ++ rest) 0 0 := by
  refine kM_of (Qc := fun A => kQi D A res.1 (WM q cy res.2 ++ rest)) (cc := cX6_bad) (maxL := 1) (ret := (some .int)) (by decide) (Nat.le_of_ble_eq_true rfl) ?_
  intro p e s m below meth c A hx hb hml hr hts hown hlocks hin hA hP hD hS hE hsz ls hl
  have hown : s.vm.findClass RX6 = some m.cls := hown
  obtain ⟨H, hH0⟩ : ∃ H, H = s.heap := ⟨_, rfl⟩
  obtain ⟨locs, hlocs0⟩ : ∃ locs : List Loc, locs = [] := ⟨_, rfl⟩
  have hP : va_P D vwCl (WM q cy u ++ rest) H := by rw [hH0]; exact hP
  have hS : va_S A s.heap H locs := by rw [hH0, hlocs0]; exact hS
  have hl : lv_has ls 1 [(0, .ref (q 0))] := hl
  suffices hgoal : W p l e rmX6_bad s m ([.ref (q 0)] : List Value).toArray below meth c H locs 0 0 (MQ below (kQi D A res.1 (WM q cy res.2 ++ rest)) ([.ref (q 0)] : List Value).toArray s 0 0 A) (F0 m 0 ls []) by rw [hH0, hlocs0] at hgoal; exact hgoal
  clear hH0 hlocs0
  unfold mX6_bad at hf
  refine lv_aload_n hx hb dX6_bad_0 rfl (lv_at hl 0 rfl) ?_
  refine lv_iconst (v := 0) hx hb dX6_bad_1 (by decide) ?_
  refine lv_bipush (v := (-2)) hx hb dX6_bad_2 (by decide) ?_
  obtain ⟨r4, h4r, hf⟩ := o_bs hf
  refine k_goi (va_runV (As := [.int 0, .int (-2)]) (rest := []) ⟨hx, hb, hml, hown, hts⟩ (zX6_refuses l D cy sa q rest H.size u 0 (-2) r4 h4r) (cwV 2 hts (gB_V wB148 wB149 wB150 wB5 wB151) rfl rfl rfl (by decide +kernel) ⟨Nat.le_of_ble_eq_true rfl, Nat.le_of_ble_eq_true rfl⟩) ⟨kP.blind, k_recv hE hP (ci := 6) (q0 := 0) rfl rfl, k_pre hP hD hS hE hA⟩ rfl rfl hl.1 rfl (lv_room (Nat.le_of_ble_eq_true rfl)) dX6_bad_4 ⟨Nat.zero_le _, Nat.zero_le _⟩) hD hS hA (fun H locs hP hD hS => ?_)
  obtain rfl := o_ret hf
  exact k_iret hx hb hr hP hD hS (Nat.zero_le _) (Nat.zero_le _) hlocks dX6_bad_7
noncomputable def mX6_puts (u : KS) (a1 : Int32) (a2 : Int32) : Option (Int32 × KS) :=
  gd (inb a1 200) (gd (inb a1 200) (some (((gR u 0) (a1.toNatClampNeg)), (sR u 0 (upd (gR u 0) (a1.toNatClampNeg) a2)))))
abbrev rmX6_puts : Room := { frames := 0, cells := 0, slots := 0, locals := 0 }
set_option maxRecDepth 100000 in
set_option maxHeartbeats 4000000 in
theorem zX6_puts (l : Launch) (D : va_G) (cy : Nat → ClassId) (sa : Nat → Nat) (q : Nat → Nat) (rest : va_W) (sz : Nat) (u : KS) (a1 : Int32) (a2 : Int32) (res : Int32 × KS) (hf : mX6_puts u a1 a2 = some res) : kMi l yX6_puts (wsK yX6_puts cX6_puts 4 (some .int)) rmX6_puts D cy sa (WM q cy u ++ rest) sz [.ref (q 0), .int a1, .int a2] res.1 (WM q cy res.2 ++ rest) 0 0 := by
  refine kM_of (Qc := fun A => kQi D A res.1 (WM q cy res.2 ++ rest)) (cc := cX6_puts) (maxL := 4) (ret := (some .int)) (by decide) (Nat.le_of_ble_eq_true rfl) ?_
  intro p e s m below meth c A hx hb hml hr hts hown hlocks hin hA hP hD hS hE hsz ls hl
  have hown : s.vm.findClass RX6 = some m.cls := hown
  obtain ⟨H, hH0⟩ : ∃ H, H = s.heap := ⟨_, rfl⟩
  obtain ⟨locs, hlocs0⟩ : ∃ locs : List Loc, locs = [] := ⟨_, rfl⟩
  have hP : va_P D vwCl (WM q cy u ++ rest) H := by rw [hH0]; exact hP
  have hS : va_S A s.heap H locs := by rw [hH0, hlocs0]; exact hS
  have hl : lv_has ls 4 [(0, .ref (q 0)), (1, .int a1), (2, .int a2)] := hl
  suffices hgoal : W p l e rmX6_puts s m ([.ref (q 0), .int a1, .int a2] : List Value).toArray below meth c H locs 0 0 (MQ below (kQi D A res.1 (WM q cy res.2 ++ rest)) ([.ref (q 0), .int a1, .int a2] : List Value).toArray s 0 0 A) (F0 m 0 ls []) by rw [hH0, hlocs0] at hgoal; exact hgoal
  clear hH0 hlocs0
  unfold mX6_puts at hf
  refine lv_aload_n hx hb dX6_puts_0 rfl (lv_at hl 0 rfl) ?_
  refine va_get (ci := 6) (v := .ref (q 1)) (C := RX6) (T := TX6) (N := 26) hx hb hts inlX6 hown hE.1 hP 0 rfl rfl 0 (by decide) (hts _ wB83) (fun _ h9 => h9) rfl dX6_puts_1 ?_
  refine lv_iload_n hx hb dX6_puts_4 rfl (lv_at hl 1 rfl) ?_
  obtain ⟨hg5, hf⟩ := gd_s hf
  refine va_iald (f := (gR u 0)) hx hb hE.1 hP 1 0 rfl rfl hg5 dX6_puts_5 ?_
  refine lv_istore_n (lv' := [(3, .int ((gR u 0) (a1.toNatClampNeg))), (0, .ref (q 0)), (1, .int a1), (2, .int a2)]) hx hb dX6_puts_6 rfl hl (by decide) rfl (fun ls hl => ?_)
  refine lv_aload_n hx hb dX6_puts_7 rfl (lv_at hl 1 rfl) ?_
  refine va_get (ci := 6) (v := .ref (q 1)) (C := RX6) (T := TX6) (N := 26) hx hb hts inlX6 hown hE.1 hP 0 rfl rfl 0 (by decide) (hts _ wB83) (fun _ h9 => h9) rfl dX6_puts_8 ?_
  refine lv_iload_n hx hb dX6_puts_11 rfl (lv_at hl 2 rfl) ?_
  refine lv_iload_n hx hb dX6_puts_12 rfl (lv_at hl 3 rfl) ?_
  obtain ⟨hg13, hf⟩ := gd_s hf
  refine va_iast (f := (gR u 0)) hx hb hE.1 hP hD hS 1 0 rfl rfl hg13 dX6_puts_13 (fun H locs hP hD hS => ?_)
  have hP : va_P D vwCl (WM q cy (sR u 0 (upd (gR u 0) (a1.toNatClampNeg) a2)) ++ rest) H := hP
  have hD : va_D A (WM q cy (sR u 0 (upd (gR u 0) (a1.toNatClampNeg) a2)) ++ rest) := hD
  refine lv_iload_n hx hb dX6_puts_14 rfl (lv_at hl 0 rfl) ?_
  obtain rfl := o_ret hf
  exact k_iret hx hb hr hP hD hS (Nat.zero_le _) (Nat.zero_le _) hlocks dX6_puts_15
noncomputable def mX6_clear (u : KS) : Option (Int32 × KS) :=
  (mX6_puts u 0 0).bind fun r3 =>
  some (r3.1, r3.2)
abbrev rmX6_clear : Room := { frames := 1, cells := 0, slots := 0, locals := 23 }
set_option maxRecDepth 100000 in
set_option maxHeartbeats 4000000 in
theorem zX6_clear (l : Launch) (D : va_G) (cy : Nat → ClassId) (sa : Nat → Nat) (q : Nat → Nat) (rest : va_W) (sz : Nat) (u : KS) (res : Int32 × KS) (hf : mX6_clear u = some res) : kMi l yX6_clear (wsK yX6_clear cX6_clear 1 (some .int)) rmX6_clear D cy sa (WM q cy u ++ rest) sz [.ref (q 0)] res.1 (WM q cy res.2 ++ rest) 0 0 := by
  refine kM_of (Qc := fun A => kQi D A res.1 (WM q cy res.2 ++ rest)) (cc := cX6_clear) (maxL := 1) (ret := (some .int)) (by decide) (Nat.le_of_ble_eq_true rfl) ?_
  intro p e s m below meth c A hx hb hml hr hts hown hlocks hin hA hP hD hS hE hsz ls hl
  have hown : s.vm.findClass RX6 = some m.cls := hown
  obtain ⟨H, hH0⟩ : ∃ H, H = s.heap := ⟨_, rfl⟩
  obtain ⟨locs, hlocs0⟩ : ∃ locs : List Loc, locs = [] := ⟨_, rfl⟩
  have hP : va_P D vwCl (WM q cy u ++ rest) H := by rw [hH0]; exact hP
  have hS : va_S A s.heap H locs := by rw [hH0, hlocs0]; exact hS
  have hl : lv_has ls 1 [(0, .ref (q 0))] := hl
  suffices hgoal : W p l e rmX6_clear s m ([.ref (q 0)] : List Value).toArray below meth c H locs 0 0 (MQ below (kQi D A res.1 (WM q cy res.2 ++ rest)) ([.ref (q 0)] : List Value).toArray s 0 0 A) (F0 m 0 ls []) by rw [hH0, hlocs0] at hgoal; exact hgoal
  clear hH0 hlocs0
  unfold mX6_clear at hf
  refine lv_aload_n hx hb dX6_clear_0 rfl (lv_at hl 0 rfl) ?_
  refine lv_iconst (v := 0) hx hb dX6_clear_1 (by decide) ?_
  refine lv_iconst (v := 0) hx hb dX6_clear_2 (by decide) ?_
  obtain ⟨r3, h3r, hf⟩ := o_bs hf
  refine k_goi (va_runV (As := [.int 0, .int 0]) (rest := []) ⟨hx, hb, hml, hown, hts⟩ (zX6_puts l D cy sa q rest H.size u 0 0 r3 h3r) (cwV 2 hts (gB_V wB164 wB165 wB166 wB5 wB167) rfl rfl rfl (by decide +kernel) ⟨Nat.le_of_ble_eq_true rfl, Nat.le_of_ble_eq_true rfl⟩) ⟨kP.blind, k_recv hE hP (ci := 6) (q0 := 0) rfl rfl, k_pre hP hD hS hE hA⟩ rfl rfl hl.1 rfl (lv_room (Nat.le_of_ble_eq_true rfl)) dX6_clear_3 ⟨Nat.zero_le _, Nat.zero_le _⟩) hD hS hA (fun H locs hP hD hS => ?_)
  obtain rfl := o_ret hf
  exact k_iret hx hb hr hP hD hS (Nat.zero_le _) (Nat.zero_le _) hlocks dX6_clear_6
noncomputable def mX6_copies_s2 (c1 : Int32) (c2 : Int32) (s2 : Int32 × KS) : Option ((KS) ⊕ (Int32 × KS)) :=
  if 12 ≤ s2.1 then
  (some (.inl s2.2))
  else
  (gd (inb ((12 * c2) + s2.1) 84) (gd (inb ((12 * c1) + s2.1) 84) (some (.inr ((s2.1 + 1), (sR s2.2 4 (upd (gR s2.2 4) (((12 * c1) + s2.1).toNatClampNeg) ((gR s2.2 4) (((12 * c2) + s2.1).toNatClampNeg)))))))))
noncomputable def mX6_copies (u : KS) (a1 : Int32) (a2 : Int32) : Option (KS) :=
  (lpF (mX6_copies_s2 a1 a2) (0, u)).bind fun e2 =>
  gd (inb a2 7) (gd (inb a1 7) (some (sR e2 5 (upd (gR e2 5) (a1.toNatClampNeg) ((gR e2 5) (a2.toNatClampNeg))))))
abbrev rmX6_copies : Room := { frames := 0, cells := 0, slots := 0, locals := 0 }
set_option maxRecDepth 100000 in
set_option maxHeartbeats 4000000 in
theorem zX6_copies (l : Launch) (D : va_G) (cy : Nat → ClassId) (sa : Nat → Nat) (q : Nat → Nat) (rest : va_W) (sz : Nat) (u : KS) (a1 : Int32) (a2 : Int32) (res : KS) (hf : mX6_copies u a1 a2 = some res) : kMv l yX6_copies (wsK yX6_copies cX6_copies 4 none) rmX6_copies D cy sa (WM q cy u ++ rest) sz [.ref (q 0), .int a1, .int a2] (WM q cy res ++ rest) 0 0 := by
  refine kM_of (Qc := fun A => kQv D A (WM q cy res ++ rest)) (cc := cX6_copies) (maxL := 4) (ret := none) (by decide) (Nat.le_of_ble_eq_true rfl) ?_
  intro p e s m below meth c A hx hb hml hr hts hown hlocks hin hA hP hD hS hE hsz ls hl
  have hown : s.vm.findClass RX6 = some m.cls := hown
  obtain ⟨H, hH0⟩ : ∃ H, H = s.heap := ⟨_, rfl⟩
  obtain ⟨locs, hlocs0⟩ : ∃ locs : List Loc, locs = [] := ⟨_, rfl⟩
  have hP : va_P D vwCl (WM q cy u ++ rest) H := by rw [hH0]; exact hP
  have hS : va_S A s.heap H locs := by rw [hH0, hlocs0]; exact hS
  have hl : lv_has ls 4 [(0, .ref (q 0)), (1, .int a1), (2, .int a2)] := hl
  suffices hgoal : W p l e rmX6_copies s m ([.ref (q 0), .int a1, .int a2] : List Value).toArray below meth c H locs 0 0 (MQ below (kQv D A (WM q cy res ++ rest)) ([.ref (q 0), .int a1, .int a2] : List Value).toArray s 0 0 A) (F0 m 0 ls []) by rw [hH0, hlocs0] at hgoal; exact hgoal
  clear hH0 hlocs0
  unfold mX6_copies at hf
  refine lv_iconst (v := 0) hx hb dX6_copies_0 (by decide) ?_
  refine lv_istore_n (lv' := [(3, .int 0), (0, .ref (q 0)), (1, .int a1), (2, .int a2)]) hx hb dX6_copies_1 rfl hl (by decide) rfl (fun ls hl => ?_)
  have L2 : ∀ (n2v : Nat) (s2 : Int32 × KS) (e2 : KS), lpO (mX6_copies_s2 a1 a2) n2v s2 = some e2 → ∀ (H : Heap) (locs : List Loc) (ls : Array Slot), va_P D vwCl (WM q cy s2.2 ++ rest) H → va_D A (WM q cy s2.2 ++ rest) → va_S A s.heap H locs → lv_has ls 4 [(0, .ref (q 0)), (1, .int a1), (2, .int a2), (3, .int s2.1)] → (∀ (H : Heap) (locs : List Loc) (ls : Array Slot), va_P D vwCl (WM q cy e2 ++ rest) H → va_D A (WM q cy e2 ++ rest) → va_S A s.heap H locs → lv_has ls 4 [(0, .ref (q 0)), (1, .int a1), (2, .int a2)] → W p l e rmX6_copies s m ([.ref (q 0), .int a1, .int a2] : List Value).toArray below meth c H locs 0 0 (MQ below (kQv D A (WM q cy res ++ rest)) ([.ref (q 0), .int a1, .int a2] : List Value).toArray s 0 0 A) (F0 m 36 ls [])) → W p l e rmX6_copies s m ([.ref (q 0), .int a1, .int a2] : List Value).toArray below meth c H locs 0 0 (MQ below (kQv D A (WM q cy res ++ rest)) ([.ref (q 0), .int a1, .int a2] : List Value).toArray s 0 0 A) (F0 m 2 ls []) := by
    intro n2v
    induction n2v with
    | zero => intro s2 e2 h; exact (lpO_z h).elim
    | succ n2v ih2 =>
      intro s2 e2 h2z H locs ls hP hD hS hl K2_0
      obtain ⟨x2, hf, h2z⟩ := lpO_s h2z
      unfold mX6_copies_s2 at hf
      refine lv_iload_n hx hb dX6_copies_2 rfl (lv_at hl 3 rfl) ?_
      refine lv_bipush (v := 12) hx hb dX6_copies_3 (by decide) ?_
      refine lv_icmp_ge (tgt := 36) hx hb dX6_copies_5 (by decide) (fun c5 => ?_) (fun c5 => ?_)
      · have hf := o_ip c5 hf
        obtain rfl := o_ret hf
        obtain rfl := lpK_l h2z
        exact K2_0 _ _ _ hP hD hS (lv_sub hl [0, 1, 2] rfl)
      · have hf := o_in c5 hf
        refine lv_aload_n hx hb dX6_copies_8 rfl (lv_at hl 0 rfl) ?_
        refine va_get (ci := 6) (v := .ref (q 5)) (C := RX6) (T := TX6) (N := 26) hx hb hts inlX6 hown hE.1 hP 0 rfl rfl 5 (by decide) (hts _ wB88) (fun _ h9 => h9) rfl dX6_copies_9 ?_
        refine lv_bipush (v := 12) hx hb dX6_copies_12 (by decide) ?_
        refine lv_iload_n hx hb dX6_copies_14 rfl (lv_at hl 1 rfl) ?_
        refine lv_imul hx hb dX6_copies_15 ?_
        refine lv_iload_n hx hb dX6_copies_16 rfl (lv_at hl 3 rfl) ?_
        refine lv_iadd hx hb dX6_copies_17 ?_
        refine lv_aload_n hx hb dX6_copies_18 rfl (lv_at hl 0 rfl) ?_
        refine va_get (ci := 6) (v := .ref (q 5)) (C := RX6) (T := TX6) (N := 26) hx hb hts inlX6 hown hE.1 hP 0 rfl rfl 5 (by decide) (hts _ wB88) (fun _ h9 => h9) rfl dX6_copies_19 ?_
        refine lv_bipush (v := 12) hx hb dX6_copies_22 (by decide) ?_
        refine lv_iload_n hx hb dX6_copies_24 rfl (lv_at hl 2 rfl) ?_
        refine lv_imul hx hb dX6_copies_25 ?_
        refine lv_iload_n hx hb dX6_copies_26 rfl (lv_at hl 3 rfl) ?_
        refine lv_iadd hx hb dX6_copies_27 ?_
        obtain ⟨hg28, hf⟩ := gd_s hf
        refine va_iald (f := (gR s2.2 4)) hx hb hE.1 hP 5 0 rfl rfl hg28 dX6_copies_28 ?_
        obtain ⟨hg29, hf⟩ := gd_s hf
        refine va_iast (f := (gR s2.2 4)) hx hb hE.1 hP hD hS 5 0 rfl rfl hg29 dX6_copies_29 (fun H locs hP hD hS => ?_)
        have hP : va_P D vwCl (WM q cy (sR s2.2 4 (upd (gR s2.2 4) (((12 * a1) + s2.1).toNatClampNeg) ((gR s2.2 4) (((12 * a2) + s2.1).toNatClampNeg)))) ++ rest) H := hP
        have hD : va_D A (WM q cy (sR s2.2 4 (upd (gR s2.2 4) (((12 * a1) + s2.1).toNatClampNeg) ((gR s2.2 4) (((12 * a2) + s2.1).toNatClampNeg)))) ++ rest) := hD
        refine lv_iinc (v := (s2.1 + 1)) (lv' := [(3, .int (s2.1 + 1)), (0, .ref (q 0)), (1, .int a1), (2, .int a2)]) hx hb dX6_copies_30 hl (k := 3) rfl (by rfl) (by decide) rfl (fun ls hl => ?_)
        refine lv_goto (tgt := 2) hx hb dX6_copies_33 (by decide) ?_
        obtain rfl := o_ret hf
        exact ih2 _ _ (lpK_r h2z) _ _ _ hP hD hS (lv_sub hl [1, 2, 3, 0] rfl) K2_0
  obtain ⟨e2, h2q, hf⟩ := o_bs hf
  obtain ⟨n2v, h2q⟩ := lpF_ex h2q
  refine L2 n2v _ e2 h2q _ _ _ hP hD hS (lv_sub hl [1, 2, 3, 0] rfl) ?_
  intro H locs ls hP hD hS hl
  refine lv_aload_n hx hb dX6_copies_36 rfl (lv_at hl 0 rfl) ?_
  refine va_get (ci := 6) (v := .ref (q 6)) (C := RX6) (T := TX6) (N := 26) hx hb hts inlX6 hown hE.1 hP 0 rfl rfl 6 (by decide) (hts _ wB89) (fun _ h9 => h9) rfl dX6_copies_37 ?_
  refine lv_iload_n hx hb dX6_copies_40 rfl (lv_at hl 1 rfl) ?_
  refine lv_aload_n hx hb dX6_copies_41 rfl (lv_at hl 0 rfl) ?_
  refine va_get (ci := 6) (v := .ref (q 6)) (C := RX6) (T := TX6) (N := 26) hx hb hts inlX6 hown hE.1 hP 0 rfl rfl 6 (by decide) (hts _ wB89) (fun _ h9 => h9) rfl dX6_copies_42 ?_
  refine lv_iload_n hx hb dX6_copies_45 rfl (lv_at hl 2 rfl) ?_
  obtain ⟨hg46, hf⟩ := gd_s hf
  refine va_iald (f := (gR e2 5)) hx hb hE.1 hP 6 0 rfl rfl hg46 dX6_copies_46 ?_
  obtain ⟨hg47, hf⟩ := gd_s hf
  refine va_iast (f := (gR e2 5)) hx hb hE.1 hP hD hS 6 0 rfl rfl hg47 dX6_copies_47 (fun H locs hP hD hS => ?_)
  have hP : va_P D vwCl (WM q cy (sR e2 5 (upd (gR e2 5) (a1.toNatClampNeg) ((gR e2 5) (a2.toNatClampNeg)))) ++ rest) H := hP
  have hD : va_D A (WM q cy (sR e2 5 (upd (gR e2 5) (a1.toNatClampNeg) ((gR e2 5) (a2.toNatClampNeg)))) ++ rest) := hD
  obtain rfl := o_ret hf
  exact k_vret hx hb hr hP hD hS (Nat.zero_le _) (Nat.zero_le _) hlocks dX6_copies_48
noncomputable def mX6_in (a0 : Int64) (a2 : Int64) (a4 : Int64) : Option (Int32) :=
  if (lg_cmp a0 a2) < 0 then
  (some 0)
  else
  (if 0 < (lg_cmp a0 a4) then
  (some 0)
  else
  (some 1))
abbrev rmX6_in : Room := { frames := 0, cells := 0, slots := 0, locals := 0 }
set_option maxRecDepth 100000 in
set_option maxHeartbeats 4000000 in
theorem zX6_in (l : Launch) (D : va_G) (cy : Nat → ClassId) (sa : Nat → Nat) (ws : va_W) (sz : Nat) (a0 : Int64) (a2 : Int64) (a4 : Int64) (res : Int32) (hf : mX6_in a0 a2 a4 = some res) : kMi l yX6_in (wsK yX6_in cX6_in 6 (some .boolean)) rmX6_in D cy sa (ws) sz [.long a0, .long a2, .long a4] res (ws) 0 0 := by
  refine kM_of (Qc := fun A => kQi D A res (ws)) (cc := cX6_in) (maxL := 6) (ret := (some .boolean)) (by decide) (Nat.le_of_ble_eq_true rfl) ?_
  intro p e s m below meth c A hx hb hml hr hts hown hlocks hin hA hP hD hS hE hsz ls hl
  have hown : s.vm.findClass RX6 = some m.cls := hown
  obtain ⟨H, hH0⟩ : ∃ H, H = s.heap := ⟨_, rfl⟩
  obtain ⟨locs, hlocs0⟩ : ∃ locs : List Loc, locs = [] := ⟨_, rfl⟩
  have hP : va_P D vwCl (ws) H := by rw [hH0]; exact hP
  have hS : va_S A s.heap H locs := by rw [hH0, hlocs0]; exact hS
  have hl : lv_has ls 6 [(0, .long a0), (2, .long a2), (4, .long a4)] := hl
  suffices hgoal : W p l e rmX6_in s m ([.long a0, .long a2, .long a4] : List Value).toArray below meth c H locs 0 0 (MQ below (kQi D A res (ws)) ([.long a0, .long a2, .long a4] : List Value).toArray s 0 0 A) (F0 m 0 ls []) by rw [hH0, hlocs0] at hgoal; exact hgoal
  clear hH0 hlocs0
  unfold mX6_in at hf
  refine lv_lload_n hx hb dX6_in_0 rfl (lv_at hl 0 rfl) ?_
  refine lv_lload_n hx hb dX6_in_1 rfl (lv_at hl 1 rfl) ?_
  refine W.lcmp hx hb dX6_in_2 ?_
  refine lv_if_lt (tgt := 17) hx hb dX6_in_3 (by decide) (fun c3 => ?_) (fun c3 => ?_)
  · have hf := o_ip c3 hf
    refine lv_iconst (v := 0) hx hb dX6_in_17 (by decide) ?_
    obtain rfl := o_ret hf
    exact k_zret (v := 0) hx hb hr hP hD hS rfl (Nat.zero_le _) (Nat.zero_le _) hlocks dX6_in_18
  · have hf := o_in c3 hf
    refine lv_lload_n hx hb dX6_in_6 rfl (lv_at hl 0 rfl) ?_
    refine lv_lload hx hb dX6_in_7 (lv_at hl 2 rfl) ?_
    refine W.lcmp hx hb dX6_in_9 ?_
    refine lv_if_gt (tgt := 17) hx hb dX6_in_10 (by decide) (fun c10 => ?_) (fun c10 => ?_)
    · have hf := o_ip c10 hf
      refine lv_iconst (v := 0) hx hb dX6_in_17 (by decide) ?_
      obtain rfl := o_ret hf
      exact k_zret (v := 0) hx hb hr hP hD hS rfl (Nat.zero_le _) (Nat.zero_le _) hlocks dX6_in_18
    · have hf := o_in c10 hf
      refine lv_iconst (v := 1) hx hb dX6_in_13 (by decide) ?_
      refine lv_goto (tgt := 18) hx hb dX6_in_14 (by decide) ?_
      obtain rfl := o_ret hf
      exact k_zret (v := 1) hx hb hr hP hD hS rfl (Nat.zero_le _) (Nat.zero_le _) hlocks dX6_in_18
noncomputable def mX6_faults_s4 (u : KS) (s4 : Int32 × Int32) : Option ((Int32) ⊕ (Int32 × Int32)) :=
  if 4 ≤ s4.2 then
  (some (.inl s4.1))
  else
  (gd (inb (15 + s4.2) 200) (if ((gR u 0) ((15 + s4.2).toNatClampNeg)) = (-1) then
  (some (.inr ((s4.1 + 0), (s4.2 + 1))))
  else
  (some (.inr ((s4.1 + 1), (s4.2 + 1))))))
noncomputable def mX6_faults (u : KS) : Option (Int32) :=
  (lpF (mX6_faults_s4 u) (0, 0)).bind fun e4 =>
  some e4
abbrev rmX6_faults : Room := { frames := 0, cells := 0, slots := 0, locals := 0 }
set_option maxRecDepth 100000 in
set_option maxHeartbeats 4000000 in
theorem zX6_faults (l : Launch) (D : va_G) (cy : Nat → ClassId) (sa : Nat → Nat) (q : Nat → Nat) (rest : va_W) (sz : Nat) (u : KS) (res : Int32) (hf : mX6_faults u = some res) : kMi l yX6_faults (wsK yX6_faults cX6_faults 3 (some .int)) rmX6_faults D cy sa (WM q cy u ++ rest) sz [.ref (q 0)] res (WM q cy u ++ rest) 0 0 := by
  refine kM_of (Qc := fun A => kQi D A res (WM q cy u ++ rest)) (cc := cX6_faults) (maxL := 3) (ret := (some .int)) (by decide) (Nat.le_of_ble_eq_true rfl) ?_
  intro p e s m below meth c A hx hb hml hr hts hown hlocks hin hA hP hD hS hE hsz ls hl
  have hown : s.vm.findClass RX6 = some m.cls := hown
  obtain ⟨H, hH0⟩ : ∃ H, H = s.heap := ⟨_, rfl⟩
  obtain ⟨locs, hlocs0⟩ : ∃ locs : List Loc, locs = [] := ⟨_, rfl⟩
  have hP : va_P D vwCl (WM q cy u ++ rest) H := by rw [hH0]; exact hP
  have hS : va_S A s.heap H locs := by rw [hH0, hlocs0]; exact hS
  have hl : lv_has ls 3 [(0, .ref (q 0))] := hl
  suffices hgoal : W p l e rmX6_faults s m ([.ref (q 0)] : List Value).toArray below meth c H locs 0 0 (MQ below (kQi D A res (WM q cy u ++ rest)) ([.ref (q 0)] : List Value).toArray s 0 0 A) (F0 m 0 ls []) by rw [hH0, hlocs0] at hgoal; exact hgoal
  clear hH0 hlocs0
  unfold mX6_faults at hf
  refine lv_iconst (v := 0) hx hb dX6_faults_0 (by decide) ?_
  refine lv_istore_n (lv' := [(1, .int 0), (0, .ref (q 0))]) hx hb dX6_faults_1 rfl hl (by decide) rfl (fun ls hl => ?_)
  refine lv_iconst (v := 0) hx hb dX6_faults_2 (by decide) ?_
  refine lv_istore_n (lv' := [(2, .int 0), (1, .int 0), (0, .ref (q 0))]) hx hb dX6_faults_3 rfl hl (by decide) rfl (fun ls hl => ?_)
  have L4 : ∀ (n4v : Nat) (s4 : Int32 × Int32) (e4 : Int32), lpO (mX6_faults_s4 u) n4v s4 = some e4 → ∀ (H : Heap) (locs : List Loc) (ls : Array Slot), va_P D vwCl (WM q cy u ++ rest) H → va_D A (WM q cy u ++ rest) → va_S A s.heap H locs → lv_has ls 3 [(0, .ref (q 0)), (1, .int s4.1), (2, .int s4.2)] → (∀ (H : Heap) (locs : List Loc) (ls : Array Slot), va_P D vwCl (WM q cy u ++ rest) H → va_D A (WM q cy u ++ rest) → va_S A s.heap H locs → lv_has ls 3 [(1, .int e4)] → W p l e rmX6_faults s m ([.ref (q 0)] : List Value).toArray below meth c H locs 0 0 (MQ below (kQi D A res (WM q cy u ++ rest)) ([.ref (q 0)] : List Value).toArray s 0 0 A) (F0 m 36 ls [])) → W p l e rmX6_faults s m ([.ref (q 0)] : List Value).toArray below meth c H locs 0 0 (MQ below (kQi D A res (WM q cy u ++ rest)) ([.ref (q 0)] : List Value).toArray s 0 0 A) (F0 m 4 ls []) := by
    intro n4v
    induction n4v with
    | zero => intro s4 e4 h; exact (lpO_z h).elim
    | succ n4v ih4 =>
      intro s4 e4 h4z H locs ls hP hD hS hl K4_0
      obtain ⟨x4, hf, h4z⟩ := lpO_s h4z
      unfold mX6_faults_s4 at hf
      refine lv_iload_n hx hb dX6_faults_4 rfl (lv_at hl 2 rfl) ?_
      refine lv_iconst (v := 4) hx hb dX6_faults_5 (by decide) ?_
      refine lv_icmp_ge (tgt := 36) hx hb dX6_faults_6 (by decide) (fun c6 => ?_) (fun c6 => ?_)
      · have hf := o_ip c6 hf
        obtain rfl := o_ret hf
        obtain rfl := lpK_l h4z
        exact K4_0 _ _ _ hP hD hS (lv_sub hl [1] rfl)
      · have hf := o_in c6 hf
        refine lv_iload_n hx hb dX6_faults_9 rfl (lv_at hl 1 rfl) ?_
        refine lv_aload_n hx hb dX6_faults_10 rfl (lv_at hl 0 rfl) ?_
        refine va_get (ci := 6) (v := .ref (q 1)) (C := RX6) (T := TX6) (N := 26) hx hb hts inlX6 hown hE.1 hP 0 rfl rfl 0 (by decide) (hts _ wB83) (fun _ h9 => h9) rfl dX6_faults_11 ?_
        refine lv_bipush (v := 15) hx hb dX6_faults_14 (by decide) ?_
        refine lv_iload_n hx hb dX6_faults_16 rfl (lv_at hl 2 rfl) ?_
        refine lv_iadd hx hb dX6_faults_17 ?_
        obtain ⟨hg18, hf⟩ := gd_s hf
        refine va_iald (f := (gR u 0)) hx hb hE.1 hP 1 0 rfl rfl hg18 dX6_faults_18 ?_
        refine lv_iconst (v := (-1)) hx hb dX6_faults_19 (by decide) ?_
        refine lv_icmp_ne (tgt := 27) hx hb dX6_faults_20 (by decide) (fun c20 => ?_) (fun c20 => ?_)
        · have hf := o_in c20 hf
          refine lv_iconst (v := 1) hx hb dX6_faults_27 (by decide) ?_
          refine lv_iadd hx hb dX6_faults_28 ?_
          refine lv_istore_n (lv' := [(1, .int (s4.1 + 1)), (0, .ref (q 0)), (2, .int s4.2)]) hx hb dX6_faults_29 rfl hl (by decide) rfl (fun ls hl => ?_)
          refine lv_iinc (v := (s4.2 + 1)) (lv' := [(2, .int (s4.2 + 1)), (1, .int (s4.1 + 1)), (0, .ref (q 0))]) hx hb dX6_faults_30 hl (k := 2) rfl (by rfl) (by decide) rfl (fun ls hl => ?_)
          refine lv_goto (tgt := 4) hx hb dX6_faults_33 (by decide) ?_
          obtain rfl := o_ret hf
          exact ih4 _ _ (lpK_r h4z) _ _ _ hP hD hS (lv_sub hl [2, 1, 0] rfl) K4_0
        · have hf := o_ip c20 hf
          refine lv_iconst (v := 0) hx hb dX6_faults_23 (by decide) ?_
          refine lv_goto (tgt := 28) hx hb dX6_faults_24 (by decide) ?_
          refine lv_iadd hx hb dX6_faults_28 ?_
          refine lv_istore_n (lv' := [(1, .int (s4.1 + 0)), (0, .ref (q 0)), (2, .int s4.2)]) hx hb dX6_faults_29 rfl hl (by decide) rfl (fun ls hl => ?_)
          refine lv_iinc (v := (s4.2 + 1)) (lv' := [(2, .int (s4.2 + 1)), (1, .int (s4.1 + 0)), (0, .ref (q 0))]) hx hb dX6_faults_30 hl (k := 2) rfl (by rfl) (by decide) rfl (fun ls hl => ?_)
          refine lv_goto (tgt := 4) hx hb dX6_faults_33 (by decide) ?_
          obtain rfl := o_ret hf
          exact ih4 _ _ (lpK_r h4z) _ _ _ hP hD hS (lv_sub hl [2, 1, 0] rfl) K4_0
  obtain ⟨e4, h4q, hf⟩ := o_bs hf
  obtain ⟨n4v, h4q⟩ := lpF_ex h4q
  refine L4 n4v _ e4 h4q _ _ _ hP hD hS (lv_sub hl [2, 1, 0] rfl) ?_
  intro H locs ls hP hD hS hl
  refine lv_iload_n hx hb dX6_faults_36 rfl (lv_at hl 0 rfl) ?_
  obtain rfl := o_ret hf
  exact k_iret hx hb hr hP hD hS (Nat.zero_le _) (Nat.zero_le _) hlocks dX6_faults_37
