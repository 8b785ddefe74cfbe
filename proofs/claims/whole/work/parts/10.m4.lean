noncomputable def mX6_count (u : KS) (a1 : Int32) : Option (Int32 × KS) :=
  (mX6_in (a1.toInt64) 0 2).bind fun r6 =>
  if r6 = 0 then
  (if a1 = 3 then
  ((mX6_faults u).bind fun r27 =>
  some (r27, u))
  else
  ((mX6_bad u).bind fun r34 =>
  some (r34.1, r34.2)))
  else
  (gd (inb a1 200) (some (((gR u 0) (a1.toNatClampNeg)), u)))
abbrev rmX6_count : Room := { frames := 2, cells := 0, slots := 0, locals := 42 }
set_option maxRecDepth 100000 in
set_option maxHeartbeats 4000000 in
theorem zX6_count (l : Launch) (D : va_G) (cy : Nat → ClassId) (sa : Nat → Nat) (q : Nat → Nat) (rest : va_W) (sz : Nat) (u : KS) (a1 : Int32) (res : Int32 × KS) (hf : mX6_count u a1 = some res) : kMi l yX6_count (wsK yX6_count cX6_count 2 (some .int)) rmX6_count D cy sa (WM q cy u ++ rest) sz [.ref (q 0), .int a1] res.1 (WM q cy res.2 ++ rest) 0 0 := by
  refine kM_of (Qc := fun A => kQi D A res.1 (WM q cy res.2 ++ rest)) (cc := cX6_count) (maxL := 2) (ret := (some .int)) (by decide) (Nat.le_of_ble_eq_true rfl) ?_
  intro p e s m below meth c A hx hb hml hr hts hown hlocks hin hA hP hD hS hE hsz ls hl
  have hown : s.vm.findClass RX6 = some m.cls := hown
  obtain ⟨H, hH0⟩ : ∃ H, H = s.heap := ⟨_, rfl⟩
  obtain ⟨locs, hlocs0⟩ : ∃ locs : List Loc, locs = [] := ⟨_, rfl⟩
  have hP : va_P D vwCl (WM q cy u ++ rest) H := by rw [hH0]; exact hP
  have hS : va_S A s.heap H locs := by rw [hH0, hlocs0]; exact hS
  have hl : lv_has ls 2 [(0, .ref (q 0)), (1, .int a1)] := hl
  suffices hgoal : W p l e rmX6_count s m ([.ref (q 0), .int a1] : List Value).toArray below meth c H locs 0 0 (MQ below (kQi D A res.1 (WM q cy res.2 ++ rest)) ([.ref (q 0), .int a1] : List Value).toArray s 0 0 A) (F0 m 0 ls []) by rw [hH0, hlocs0] at hgoal; exact hgoal
  clear hH0 hlocs0
  unfold mX6_count at hf
  refine lv_iload_n hx hb dX6_count_0 rfl (lv_at hl 1 rfl) ?_
  refine lv_i2l (v := (a1.toInt64)) hx hb dX6_count_1 rfl ?_
  refine lv_lconst (v := 0) hx hb dX6_count_2 (by decide) ?_
  refine lv_ldc2 (v := 2) hx hb hown (hts _ wB485) dX6_count_3 ?_
  obtain ⟨r6, h6r, hf⟩ := o_bs hf
  refine k_goi (va_runS (As := [.long (a1.toInt64), .long 0, .long 2]) (rest := []) ⟨hx, hb, hml, hown, hts⟩ (zX6_in l D cy sa (WM q cy u ++ rest) H.size (a1.toInt64) 0 2  r6  h6r) (va_cwS 3 hts (gB_S wB141 wB142 wB5 wB143) rfl rfl rfl (by decide +kernel) ⟨Nat.le_of_ble_eq_true rfl, Nat.le_of_ble_eq_true rfl⟩) ⟨kP.blind, k_pre hP hD hS hE hA⟩ rfl rfl hl.1 rfl (lv_room (Nat.le_of_ble_eq_true rfl)) dX6_count_6 ⟨Nat.zero_le _, Nat.zero_le _⟩) hD hS hA (fun H locs hP hD hS => ?_)
  refine lv_if_eq (tgt := 21) hx hb dX6_count_9 (by decide) (fun c9 => ?_) (fun c9 => ?_)
  · have hf := o_ip c9 hf
    refine lv_iload_n hx hb dX6_count_21 rfl (lv_at hl 1 rfl) ?_
    refine lv_iconst (v := 3) hx hb dX6_count_22 (by decide) ?_
    refine lv_icmp_ne (tgt := 33) hx hb dX6_count_23 (by decide) (fun c23 => ?_) (fun c23 => ?_)
    · have hf := o_in c23 hf
      refine lv_aload_n hx hb dX6_count_33 rfl (lv_at hl 0 rfl) ?_
      obtain ⟨r34, h34r, hf⟩ := o_bs hf
      refine k_goi (va_runV (As := []) (rest := []) ⟨hx, hb, hml, hown, hts⟩ (zX6_bad l D cy sa q rest H.size u  r34 h34r) (cwV 0 hts (gB_V wB144 wB145 wB146 wB5 wB147) rfl rfl rfl (by decide +kernel) ⟨Nat.le_of_ble_eq_true rfl, Nat.le_of_ble_eq_true rfl⟩) ⟨kP.blind, k_recv hE hP (ci := 6) (q0 := 0) rfl rfl, k_pre hP hD hS hE hA⟩ rfl rfl hl.1 rfl (lv_room (Nat.le_of_ble_eq_true rfl)) dX6_count_34 ⟨Nat.zero_le _, Nat.zero_le _⟩) hD hS hA (fun H locs hP hD hS => ?_)
      obtain rfl := o_ret hf
      exact k_iret hx hb hr hP hD hS (Nat.zero_le _) (Nat.zero_le _) hlocks dX6_count_37
    · have hf := o_ip c23 hf
      refine lv_aload_n hx hb dX6_count_26 rfl (lv_at hl 0 rfl) ?_
      obtain ⟨r27, h27r, hf⟩ := o_bs hf
      refine k_goi (va_runV (As := []) (rest := []) ⟨hx, hb, hml, hown, hts⟩ (zX6_faults l D cy sa q rest H.size u  r27 h27r) (cwV 0 hts (gB_V wB893 wB894 wB895 wB5 wB896) rfl rfl rfl (by decide +kernel) ⟨Nat.le_of_ble_eq_true rfl, Nat.le_of_ble_eq_true rfl⟩) ⟨kP.blind, k_recv hE hP (ci := 6) (q0 := 0) rfl rfl, k_pre hP hD hS hE hA⟩ rfl rfl hl.1 rfl (lv_room (Nat.le_of_ble_eq_true rfl)) dX6_count_27 ⟨Nat.zero_le _, Nat.zero_le _⟩) hD hS hA (fun H locs hP hD hS => ?_)
      refine lv_goto (tgt := 37) hx hb dX6_count_30 (by decide) ?_
      obtain rfl := o_ret hf
      exact k_iret hx hb hr hP hD hS (Nat.zero_le _) (Nat.zero_le _) hlocks dX6_count_37
  · have hf := o_in c9 hf
    refine lv_aload_n hx hb dX6_count_12 rfl (lv_at hl 0 rfl) ?_
    refine va_get (ci := 6) (v := .ref (q 1)) (C := RX6) (T := TX6) (N := 26) hx hb hts inlX6 hown hE.1 hP 0 rfl rfl 0 (by decide) (hts _ wB83) (fun _ h9 => h9) rfl dX6_count_13 ?_
    refine lv_iload_n hx hb dX6_count_16 rfl (lv_at hl 1 rfl) ?_
    obtain ⟨hg17, hf⟩ := gd_s hf
    refine va_iald (f := (gR u 0)) hx hb hE.1 hP 1 0 rfl rfl hg17 dX6_count_17 ?_
    refine lv_goto (tgt := 37) hx hb dX6_count_18 (by decide) ?_
    obtain rfl := o_ret hf
    exact k_iret hx hb hr hP hD hS (Nat.zero_le _) (Nat.zero_le _) hlocks dX6_count_37
noncomputable def mX6_mixed_s6 (n0 : Nat) (f0 : Nat → Int32) (c3 : Int32) (c4 : Int32) (s6 : Int64 × Int32) : Option ((Int64) ⊕ (Int64 × Int32)) :=
  if c4 ≤ s6.2 then
  (some (.inl s6.1))
  else
  (gd (inb (c3 + s6.2) n0) (some (.inr (((31 * s6.1) + ((f0 ((c3 + s6.2).toNatClampNeg)).toInt64)), (s6.2 + 1)))))
noncomputable def mX6_mixed (n0 : Nat) (f0 : Nat → Int32) (a0 : Int64) (a3 : Int32) (a4 : Int32) : Option (Int64) :=
  (lpF (mX6_mixed_s6 n0 f0 a3 a4) (a0, 0)).bind fun e6 =>
  some e6
abbrev rmX6_mixed : Room := { frames := 0, cells := 0, slots := 0, locals := 0 }
set_option maxRecDepth 100000 in
set_option maxHeartbeats 4000000 in
theorem zX6_mixed (l : Launch) (D : va_G) (cy : Nat → ClassId) (sa : Nat → Nat) (ws : va_W) (sz : Nat) (k0 d0 n0 : Nat) (f0 : Nat → Int32) (a0 : Int64) (a3 : Int32) (a4 : Int32) (res : Int64) (ha0 : ws[k0]? = some (kII d0 (cy 0) n0 f0)) (hf : mX6_mixed n0 f0 a0 a3 a4 = some res) : kMl l yX6_mixed (wsK yX6_mixed cX6_mixed 8 (some .long)) rmX6_mixed D cy sa (ws) sz [.long a0, .ref d0, .int a3, .int a4] res (ws) 0 0 := by
  refine kM_of (Qc := fun A => kQl D A res (ws)) (cc := cX6_mixed) (maxL := 8) (ret := (some .long)) (by decide) (Nat.le_of_ble_eq_true rfl) ?_
  intro p e s m below meth c A hx hb hml hr hts hown hlocks hin hA hP hD hS hE hsz ls hl
  have hown : s.vm.findClass RX6 = some m.cls := hown
  obtain ⟨H, hH0⟩ : ∃ H, H = s.heap := ⟨_, rfl⟩
  obtain ⟨locs, hlocs0⟩ : ∃ locs : List Loc, locs = [] := ⟨_, rfl⟩
  have hP : va_P D vwCl (ws) H := by rw [hH0]; exact hP
  have hS : va_S A s.heap H locs := by rw [hH0, hlocs0]; exact hS
  have hl : lv_has ls 8 [(0, .long a0), (2, .ref d0), (3, .int a3), (4, .int a4)] := hl
  suffices hgoal : W p l e rmX6_mixed s m ([.long a0, .ref d0, .int a3, .int a4] : List Value).toArray below meth c H locs 0 0 (MQ below (kQl D A res (ws)) ([.long a0, .ref d0, .int a3, .int a4] : List Value).toArray s 0 0 A) (F0 m 0 ls []) by rw [hH0, hlocs0] at hgoal; exact hgoal
  clear hH0 hlocs0
  unfold mX6_mixed at hf
  refine lv_lload_n hx hb dX6_mixed_0 rfl (lv_at hl 0 rfl) ?_
  refine lv_lstore (lv' := [(5, .long a0), (0, .long a0), (2, .ref d0), (3, .int a3), (4, .int a4)]) hx hb dX6_mixed_1 hl (by decide) rfl (fun ls hl => ?_)
  refine lv_iconst (v := 0) hx hb dX6_mixed_3 (by decide) ?_
  refine lv_istore (lv' := [(7, .int 0), (5, .long a0), (0, .long a0), (2, .ref d0), (3, .int a3), (4, .int a4)]) hx hb dX6_mixed_4 hl (by decide) rfl (fun ls hl => ?_)
  have L6 : ∀ (n6v : Nat) (s6 : Int64 × Int32) (e6 : Int64), lpO (mX6_mixed_s6 n0 f0 a3 a4) n6v s6 = some e6 → ∀ (H : Heap) (locs : List Loc) (ls : Array Slot), va_P D vwCl (ws) H → va_D A (ws) → va_S A s.heap H locs → lv_has ls 8 [(2, .ref d0), (3, .int a3), (4, .int a4), (5, .long s6.1), (7, .int s6.2)] → (∀ (H : Heap) (locs : List Loc) (ls : Array Slot), va_P D vwCl (ws) H → va_D A (ws) → va_S A s.heap H locs → lv_has ls 8 [(5, .long e6)] → W p l e rmX6_mixed s m ([.long a0, .ref d0, .int a3, .int a4] : List Value).toArray below meth c H locs 0 0 (MQ below (kQl D A res (ws)) ([.long a0, .ref d0, .int a3, .int a4] : List Value).toArray s 0 0 A) (F0 m 35 ls [])) → W p l e rmX6_mixed s m ([.long a0, .ref d0, .int a3, .int a4] : List Value).toArray below meth c H locs 0 0 (MQ below (kQl D A res (ws)) ([.long a0, .ref d0, .int a3, .int a4] : List Value).toArray s 0 0 A) (F0 m 6 ls []) := by
    intro n6v
    induction n6v with
    | zero => intro s6 e6 h; exact (lpO_z h).elim
    | succ n6v ih6 =>
      intro s6 e6 h6z H locs ls hP hD hS hl K6_0
      obtain ⟨x6, hf, h6z⟩ := lpO_s h6z
      unfold mX6_mixed_s6 at hf
      refine lv_iload hx hb dX6_mixed_6 (lv_at hl 4 rfl) ?_
      refine lv_iload hx hb dX6_mixed_8 (lv_at hl 2 rfl) ?_
      refine lv_icmp_ge (tgt := 35) hx hb dX6_mixed_10 (by decide) (fun c10 => ?_) (fun c10 => ?_)
      · have hf := o_ip c10 hf
        obtain rfl := o_ret hf
        obtain rfl := lpK_l h6z
        exact K6_0 _ _ _ hP hD hS (lv_sub hl [3] rfl)
      · have hf := o_in c10 hf
        refine lv_ldc2 (v := 31) hx hb hown (hts _ wB910) dX6_mixed_13 ?_
        refine lv_lload hx hb dX6_mixed_16 (lv_at hl 3 rfl) ?_
        refine lv_lmul hx hb dX6_mixed_18 ?_
        refine lv_aload_n hx hb dX6_mixed_19 rfl (lv_at hl 0 rfl) ?_
        refine lv_iload_n hx hb dX6_mixed_20 rfl (lv_at hl 1 rfl) ?_
        refine lv_iload hx hb dX6_mixed_21 (lv_at hl 4 rfl) ?_
        refine lv_iadd hx hb dX6_mixed_23 ?_
        obtain ⟨hg24, hf⟩ := gd_s hf
        refine va_iald (f := f0) hx hb hE.1 hP k0 0 ha0 rfl hg24 dX6_mixed_24 ?_
        refine lv_i2l (v := ((f0 ((a3 + s6.2).toNatClampNeg)).toInt64)) hx hb dX6_mixed_25 rfl ?_
        refine lv_ladd hx hb dX6_mixed_26 ?_
        refine lv_lstore (lv' := [(5, .long ((31 * s6.1) + ((f0 ((a3 + s6.2).toNatClampNeg)).toInt64))), (2, .ref d0), (3, .int a3), (4, .int a4), (7, .int s6.2)]) hx hb dX6_mixed_27 hl (by decide) rfl (fun ls hl => ?_)
        refine lv_iinc (v := (s6.2 + 1)) (lv' := [(7, .int (s6.2 + 1)), (5, .long ((31 * s6.1) + ((f0 ((a3 + s6.2).toNatClampNeg)).toInt64))), (2, .ref d0), (3, .int a3), (4, .int a4)]) hx hb dX6_mixed_29 hl (k := 4) rfl (by rfl) (by decide) rfl (fun ls hl => ?_)
        refine lv_goto (tgt := 6) hx hb dX6_mixed_32 (by decide) ?_
        obtain rfl := o_ret hf
        exact ih6 _ _ (lpK_r h6z) _ _ _ hP hD hS (lv_sub hl [2, 3, 4, 1, 0] rfl) K6_0
  obtain ⟨e6, h6q, hf⟩ := o_bs hf
  obtain ⟨n6v, h6q⟩ := lpF_ex h6q
  refine L6 n6v _ e6 h6q _ _ _ hP hD hS (lv_sub hl [3, 4, 5, 1, 0] rfl) ?_
  intro H locs ls hP hD hS hl
  refine lv_lload hx hb dX6_mixed_35 (lv_at hl 0 rfl) ?_
  obtain rfl := o_ret hf
  exact k_lret hx hb hr hP hD hS (Nat.zero_le _) (Nat.zero_le _) hlocks dX6_mixed_37
noncomputable def mX6_signNow (u : KS) : Option (Int32) :=
  if ((gR u 5) ((0 : Int32).toNatClampNeg)) = 0 then
  (some 0)
  else
  (if (gI u 0) = 0 then
  (some 1)
  else
  (some (-1)))
abbrev rmX6_signNow : Room := { frames := 0, cells := 0, slots := 0, locals := 0 }
set_option maxRecDepth 100000 in
set_option maxHeartbeats 4000000 in
theorem zX6_signNow (l : Launch) (D : va_G) (cy : Nat → ClassId) (sa : Nat → Nat) (q : Nat → Nat) (rest : va_W) (sz : Nat) (u : KS) (res : Int32) (hf : mX6_signNow u = some res) : kMi l yX6_signNow (wsK yX6_signNow cX6_signNow 1 (some .int)) rmX6_signNow D cy sa (WM q cy u ++ rest) sz [.ref (q 0)] res (WM q cy u ++ rest) 0 0 := by
  refine kM_of (Qc := fun A => kQi D A res (WM q cy u ++ rest)) (cc := cX6_signNow) (maxL := 1) (ret := (some .int)) (by decide) (Nat.le_of_ble_eq_true rfl) ?_
  intro p e s m below meth c A hx hb hml hr hts hown hlocks hin hA hP hD hS hE hsz ls hl
  have hown : s.vm.findClass RX6 = some m.cls := hown
  obtain ⟨H, hH0⟩ : ∃ H, H = s.heap := ⟨_, rfl⟩
  obtain ⟨locs, hlocs0⟩ : ∃ locs : List Loc, locs = [] := ⟨_, rfl⟩
  have hP : va_P D vwCl (WM q cy u ++ rest) H := by rw [hH0]; exact hP
  have hS : va_S A s.heap H locs := by rw [hH0, hlocs0]; exact hS
  have hl : lv_has ls 1 [(0, .ref (q 0))] := hl
  suffices hgoal : W p l e rmX6_signNow s m ([.ref (q 0)] : List Value).toArray below meth c H locs 0 0 (MQ below (kQi D A res (WM q cy u ++ rest)) ([.ref (q 0)] : List Value).toArray s 0 0 A) (F0 m 0 ls []) by rw [hH0, hlocs0] at hgoal; exact hgoal
  clear hH0 hlocs0
  unfold mX6_signNow at hf
  refine lv_aload_n hx hb dX6_signNow_0 rfl (lv_at hl 0 rfl) ?_
  refine va_get (ci := 6) (v := .ref (q 6)) (C := RX6) (T := TX6) (N := 26) hx hb hts inlX6 hown hE.1 hP 0 rfl rfl 6 (by decide) (hts _ wB89) (fun _ h9 => h9) rfl dX6_signNow_1 ?_
  refine lv_iconst (v := 0) hx hb dX6_signNow_4 (by decide) ?_
  refine va_iald (f := (gR u 5)) hx hb hE.1 hP 6 0 rfl rfl (k_in (by decide)) dX6_signNow_5 ?_
  refine lv_if_ne (tgt := 13) hx hb dX6_signNow_6 (by decide) (fun c6 => ?_) (fun c6 => ?_)
  · have hf := o_in c6 hf
    refine lv_aload_n hx hb dX6_signNow_13 rfl (lv_at hl 0 rfl) ?_
    refine va_get (ci := 6) (v := .int (gI u 0)) (C := RX6) (T := TX6) (N := 26) hx hb hts inlX6 hown hE.1 hP 0 rfl rfl 4 (by decide) (hts _ wB584) (fun _ h9 => h9) rfl dX6_signNow_14 ?_
    refine lv_if_eq (tgt := 24) hx hb dX6_signNow_17 (by decide) (fun c17 => ?_) (fun c17 => ?_)
    · have hf := o_ip c17 hf
      refine lv_iconst (v := 1) hx hb dX6_signNow_24 (by decide) ?_
      obtain rfl := o_ret hf
      exact k_iret hx hb hr hP hD hS (Nat.zero_le _) (Nat.zero_le _) hlocks dX6_signNow_25
    · have hf := o_in c17 hf
      refine lv_iconst (v := (-1)) hx hb dX6_signNow_20 (by decide) ?_
      refine lv_goto (tgt := 25) hx hb dX6_signNow_21 (by decide) ?_
      obtain rfl := o_ret hf
      exact k_iret hx hb hr hP hD hS (Nat.zero_le _) (Nat.zero_le _) hlocks dX6_signNow_25
  · have hf := o_ip c6 hf
    refine lv_iconst (v := 0) hx hb dX6_signNow_9 (by decide) ?_
    refine lv_goto (tgt := 25) hx hb dX6_signNow_10 (by decide) ?_
    obtain rfl := o_ret hf
    exact k_iret hx hb hr hP hD hS (Nat.zero_le _) (Nat.zero_le _) hlocks dX6_signNow_25
noncomputable def mX6_digest (u : KS) : Option (Int64) :=
  (mX6_mixed 200 (gR u 0) 577 0 3).bind fun r12 =>
  (mX6_faults u).bind fun r17 =>
  (mX6_mixed 200 (gR u 0) ((31 * r12) + (r17.toInt64)) 80 ((gR u 0) ((0 : Int32).toNatClampNeg))).bind fun r36 =>
  (mX6_mixed 200 (gR u 0) r36 4 4).bind fun r47 =>
  (mX6_mixed 200 (gR u 0) r47 8 7).bind fun r60 =>
  (mX6_mixed 200 (gR u 0) r60 15 4).bind fun r72 =>
  (mX6_mixed 200 (gR u 0) r72 20 (4 * ((gR u 0) ((1 : Int32).toNatClampNeg)))).bind fun r91 =>
  (mX6_mixed 200 (gR u 0) r91 60 (3 * ((gR u 0) ((2 : Int32).toNatClampNeg)))).bind fun r110 =>
  (mX6_signNow u).bind fun r126 =>
  (mX6_mixed 84 (gR u 4) ((31 * ((31 * ((31 * r110) + (r126.toInt64))) + (((gR u 5) ((0 : Int32).toNatClampNeg)).toInt64))) + (((gR u 5) ((1 : Int32).toNatClampNeg)).toInt64)) 0 ((gR u 5) ((0 : Int32).toNatClampNeg))).bind fun r162 =>
  (mX6_mixed 84 (gR u 4) r162 12 ((gR u 5) ((1 : Int32).toNatClampNeg))).bind fun r179 =>
  some r179
abbrev rmX6_digest : Room := { frames := 1, cells := 0, slots := 0, locals := 27 }
set_option maxRecDepth 100000 in
set_option maxHeartbeats 4000000 in
theorem zX6_digest (l : Launch) (D : va_G) (cy : Nat → ClassId) (sa : Nat → Nat) (q : Nat → Nat) (rest : va_W) (sz : Nat) (u : KS) (res : Int64) (hf : mX6_digest u = some res) : kMl l yX6_digest (wsK yX6_digest cX6_digest 3 (some .long)) rmX6_digest D cy sa (WM q cy u ++ rest) sz [.ref (q 0)] res (WM q cy u ++ rest) 0 0 := by
  refine kM_of (Qc := fun A => kQl D A res (WM q cy u ++ rest)) (cc := cX6_digest) (maxL := 3) (ret := (some .long)) (by decide) (Nat.le_of_ble_eq_true rfl) ?_
  intro p e s m below meth c A hx hb hml hr hts hown hlocks hin hA hP hD hS hE hsz ls hl
  have hown : s.vm.findClass RX6 = some m.cls := hown
  obtain ⟨H, hH0⟩ : ∃ H, H = s.heap := ⟨_, rfl⟩
  obtain ⟨locs, hlocs0⟩ : ∃ locs : List Loc, locs = [] := ⟨_, rfl⟩
  have hP : va_P D vwCl (WM q cy u ++ rest) H := by rw [hH0]; exact hP
  have hS : va_S A s.heap H locs := by rw [hH0, hlocs0]; exact hS
  have hl : lv_has ls 3 [(0, .ref (q 0))] := hl
  suffices hgoal : W p l e rmX6_digest s m ([.ref (q 0)] : List Value).toArray below meth c H locs 0 0 (MQ below (kQl D A res (WM q cy u ++ rest)) ([.ref (q 0)] : List Value).toArray s 0 0 A) (F0 m 0 ls []) by rw [hH0, hlocs0] at hgoal; exact hgoal
  clear hH0 hlocs0
  unfold mX6_digest at hf
  refine lv_ldc2 (v := 31) hx hb hown (hts _ wB910) dX6_digest_0 ?_
  refine lv_ldc2 (v := 577) hx hb hown (hts _ wB911) dX6_digest_3 ?_
  refine lv_aload_n hx hb dX6_digest_6 rfl (lv_at hl 0 rfl) ?_
  refine va_get (ci := 6) (v := .ref (q 1)) (C := RX6) (T := TX6) (N := 26) hx hb hts inlX6 hown hE.1 hP 0 rfl rfl 0 (by decide) (hts _ wB83) (fun _ h9 => h9) rfl dX6_digest_7 ?_
  refine lv_iconst (v := 0) hx hb dX6_digest_10 (by decide) ?_
  refine lv_iconst (v := 3) hx hb dX6_digest_11 (by decide) ?_
  obtain ⟨r12, h12r, hf⟩ := o_bs hf
  refine k_gol (va_runS (As := [.long 577, .ref (q 1), .int 0, .int 3]) (rest := [.long 31]) ⟨hx, hb, hml, hown, hts⟩ (zX6_mixed l D cy sa (WM q cy u ++ rest) H.size 1 (q 1) 200 (gR u 0) 577 0 3 r12 rfl h12r) (va_cwS 4 hts (gB_S wB912 wB913 wB5 wB914) rfl rfl rfl (by decide +kernel) ⟨Nat.le_of_ble_eq_true rfl, Nat.le_of_ble_eq_true rfl⟩) ⟨kP.blind, k_pre hP hD hS hE hA⟩ rfl rfl hl.1 rfl (lv_room (Nat.le_of_ble_eq_true rfl)) dX6_digest_12 ⟨Nat.zero_le _, Nat.zero_le _⟩) hD hS hA (fun H locs hP hD hS => ?_)
  refine lv_lmul hx hb dX6_digest_15 ?_
  refine lv_aload_n hx hb dX6_digest_16 rfl (lv_at hl 0 rfl) ?_
  obtain ⟨r17, h17r, hf⟩ := o_bs hf
  refine k_goi (va_runV (As := []) (rest := [.long (31 * r12)]) ⟨hx, hb, hml, hown, hts⟩ (zX6_faults l D cy sa q rest H.size u  r17 h17r) (cwV 0 hts (gB_V wB893 wB894 wB895 wB5 wB896) rfl rfl rfl (by decide +kernel) ⟨Nat.le_of_ble_eq_true rfl, Nat.le_of_ble_eq_true rfl⟩) ⟨kP.blind, k_recv hE hP (ci := 6) (q0 := 0) rfl rfl, k_pre hP hD hS hE hA⟩ rfl rfl hl.1 rfl (lv_room (Nat.le_of_ble_eq_true rfl)) dX6_digest_17 ⟨Nat.zero_le _, Nat.zero_le _⟩) hD hS hA (fun H locs hP hD hS => ?_)
  refine lv_i2l (v := (r17.toInt64)) hx hb dX6_digest_20 rfl ?_
  refine lv_ladd hx hb dX6_digest_21 ?_
  refine lv_lstore_n (lv' := [(1, .long ((31 * r12) + (r17.toInt64))), (0, .ref (q 0))]) hx hb dX6_digest_22 rfl hl (by decide) rfl (fun ls hl => ?_)
  refine lv_lload_n hx hb dX6_digest_23 rfl (lv_at hl 0 rfl) ?_
  refine lv_aload_n hx hb dX6_digest_24 rfl (lv_at hl 1 rfl) ?_
  refine va_get (ci := 6) (v := .ref (q 1)) (C := RX6) (T := TX6) (N := 26) hx hb hts inlX6 hown hE.1 hP 0 rfl rfl 0 (by decide) (hts _ wB83) (fun _ h9 => h9) rfl dX6_digest_25 ?_
  refine lv_bipush (v := 80) hx hb dX6_digest_28 (by decide) ?_
  refine lv_aload_n hx hb dX6_digest_30 rfl (lv_at hl 1 rfl) ?_
  refine va_get (ci := 6) (v := .ref (q 1)) (C := RX6) (T := TX6) (N := 26) hx hb hts inlX6 hown hE.1 hP 0 rfl rfl 0 (by decide) (hts _ wB83) (fun _ h9 => h9) rfl dX6_digest_31 ?_
  refine lv_iconst (v := 0) hx hb dX6_digest_34 (by decide) ?_
  refine va_iald (f := (gR u 0)) hx hb hE.1 hP 1 0 rfl rfl (k_in (by decide)) dX6_digest_35 ?_
  obtain ⟨r36, h36r, hf⟩ := o_bs hf
  refine k_gol (va_runS (As := [.long ((31 * r12) + (r17.toInt64)), .ref (q 1), .int 80, .int ((gR u 0) ((0 : Int32).toNatClampNeg))]) (rest := []) ⟨hx, hb, hml, hown, hts⟩ (zX6_mixed l D cy sa (WM q cy u ++ rest) H.size 1 (q 1) 200 (gR u 0) ((31 * r12) + (r17.toInt64)) 80 ((gR u 0) ((0 : Int32).toNatClampNeg)) r36 rfl h36r) (va_cwS 4 hts (gB_S wB912 wB913 wB5 wB914) rfl rfl rfl (by decide +kernel) ⟨Nat.le_of_ble_eq_true rfl, Nat.le_of_ble_eq_true rfl⟩) ⟨kP.blind, k_pre hP hD hS hE hA⟩ rfl rfl hl.1 rfl (lv_room (Nat.le_of_ble_eq_true rfl)) dX6_digest_36 ⟨Nat.zero_le _, Nat.zero_le _⟩) hD hS hA (fun H locs hP hD hS => ?_)
  refine lv_lstore_n (lv' := [(1, .long r36), (0, .ref (q 0))]) hx hb dX6_digest_39 rfl hl (by decide) rfl (fun ls hl => ?_)
  refine lv_lload_n hx hb dX6_digest_40 rfl (lv_at hl 0 rfl) ?_
  refine lv_aload_n hx hb dX6_digest_41 rfl (lv_at hl 1 rfl) ?_
  refine va_get (ci := 6) (v := .ref (q 1)) (C := RX6) (T := TX6) (N := 26) hx hb hts inlX6 hown hE.1 hP 0 rfl rfl 0 (by decide) (hts _ wB83) (fun _ h9 => h9) rfl dX6_digest_42 ?_
  refine lv_iconst (v := 4) hx hb dX6_digest_45 (by decide) ?_
  refine lv_iconst (v := 4) hx hb dX6_digest_46 (by decide) ?_
  obtain ⟨r47, h47r, hf⟩ := o_bs hf
  refine k_gol (va_runS (As := [.long r36, .ref (q 1), .int 4, .int 4]) (rest := []) ⟨hx, hb, hml, hown, hts⟩ (zX6_mixed l D cy sa (WM q cy u ++ rest) H.size 1 (q 1) 200 (gR u 0) r36 4 4 r47 rfl h47r) (va_cwS 4 hts (gB_S wB912 wB913 wB5 wB914) rfl rfl rfl (by decide +kernel) ⟨Nat.le_of_ble_eq_true rfl, Nat.le_of_ble_eq_true rfl⟩) ⟨kP.blind, k_pre hP hD hS hE hA⟩ rfl rfl hl.1 rfl (lv_room (Nat.le_of_ble_eq_true rfl)) dX6_digest_47 ⟨Nat.zero_le _, Nat.zero_le _⟩) hD hS hA (fun H locs hP hD hS => ?_)
  refine lv_lstore_n (lv' := [(1, .long r47), (0, .ref (q 0))]) hx hb dX6_digest_50 rfl hl (by decide) rfl (fun ls hl => ?_)
  refine lv_lload_n hx hb dX6_digest_51 rfl (lv_at hl 0 rfl) ?_
  refine lv_aload_n hx hb dX6_digest_52 rfl (lv_at hl 1 rfl) ?_
  refine va_get (ci := 6) (v := .ref (q 1)) (C := RX6) (T := TX6) (N := 26) hx hb hts inlX6 hown hE.1 hP 0 rfl rfl 0 (by decide) (hts _ wB83) (fun _ h9 => h9) rfl dX6_digest_53 ?_
  refine lv_bipush (v := 8) hx hb dX6_digest_56 (by decide) ?_
  refine lv_bipush (v := 7) hx hb dX6_digest_58 (by decide) ?_
  obtain ⟨r60, h60r, hf⟩ := o_bs hf
  refine k_gol (va_runS (As := [.long r47, .ref (q 1), .int 8, .int 7]) (rest := []) ⟨hx, hb, hml, hown, hts⟩ (zX6_mixed l D cy sa (WM q cy u ++ rest) H.size 1 (q 1) 200 (gR u 0) r47 8 7 r60 rfl h60r) (va_cwS 4 hts (gB_S wB912 wB913 wB5 wB914) rfl rfl rfl (by decide +kernel) ⟨Nat.le_of_ble_eq_true rfl, Nat.le_of_ble_eq_true rfl⟩) ⟨kP.blind, k_pre hP hD hS hE hA⟩ rfl rfl hl.1 rfl (lv_room (Nat.le_of_ble_eq_true rfl)) dX6_digest_60 ⟨Nat.zero_le _, Nat.zero_le _⟩) hD hS hA (fun H locs hP hD hS => ?_)
  refine lv_lstore_n (lv' := [(1, .long r60), (0, .ref (q 0))]) hx hb dX6_digest_63 rfl hl (by decide) rfl (fun ls hl => ?_)
  refine lv_lload_n hx hb dX6_digest_64 rfl (lv_at hl 0 rfl) ?_
  refine lv_aload_n hx hb dX6_digest_65 rfl (lv_at hl 1 rfl) ?_
  refine va_get (ci := 6) (v := .ref (q 1)) (C := RX6) (T := TX6) (N := 26) hx hb hts inlX6 hown hE.1 hP 0 rfl rfl 0 (by decide) (hts _ wB83) (fun _ h9 => h9) rfl dX6_digest_66 ?_
  refine lv_bipush (v := 15) hx hb dX6_digest_69 (by decide) ?_
  refine lv_iconst (v := 4) hx hb dX6_digest_71 (by decide) ?_
  obtain ⟨r72, h72r, hf⟩ := o_bs hf
  refine k_gol (va_runS (As := [.long r60, .ref (q 1), .int 15, .int 4]) (rest := []) ⟨hx, hb, hml, hown, hts⟩ (zX6_mixed l D cy sa (WM q cy u ++ rest) H.size 1 (q 1) 200 (gR u 0) r60 15 4 r72 rfl h72r) (va_cwS 4 hts (gB_S wB912 wB913 wB5 wB914) rfl rfl rfl (by decide +kernel) ⟨Nat.le_of_ble_eq_true rfl, Nat.le_of_ble_eq_true rfl⟩) ⟨kP.blind, k_pre hP hD hS hE hA⟩ rfl rfl hl.1 rfl (lv_room (Nat.le_of_ble_eq_true rfl)) dX6_digest_72 ⟨Nat.zero_le _, Nat.zero_le _⟩) hD hS hA (fun H locs hP hD hS => ?_)
  refine lv_lstore_n (lv' := [(1, .long r72), (0, .ref (q 0))]) hx hb dX6_digest_75 rfl hl (by decide) rfl (fun ls hl => ?_)
  refine lv_lload_n hx hb dX6_digest_76 rfl (lv_at hl 0 rfl) ?_
  refine lv_aload_n hx hb dX6_digest_77 rfl (lv_at hl 1 rfl) ?_
  refine va_get (ci := 6) (v := .ref (q 1)) (C := RX6) (T := TX6) (N := 26) hx hb hts inlX6 hown hE.1 hP 0 rfl rfl 0 (by decide) (hts _ wB83) (fun _ h9 => h9) rfl dX6_digest_78 ?_
  refine lv_bipush (v := 20) hx hb dX6_digest_81 (by decide) ?_
  refine lv_iconst (v := 4) hx hb dX6_digest_83 (by decide) ?_
  refine lv_aload_n hx hb dX6_digest_84 rfl (lv_at hl 1 rfl) ?_
  refine va_get (ci := 6) (v := .ref (q 1)) (C := RX6) (T := TX6) (N := 26) hx hb hts inlX6 hown hE.1 hP 0 rfl rfl 0 (by decide) (hts _ wB83) (fun _ h9 => h9) rfl dX6_digest_85 ?_
  refine lv_iconst (v := 1) hx hb dX6_digest_88 (by decide) ?_
  refine va_iald (f := (gR u 0)) hx hb hE.1 hP 1 0 rfl rfl (k_in (by decide)) dX6_digest_89 ?_
  refine lv_imul hx hb dX6_digest_90 ?_
  obtain ⟨r91, h91r, hf⟩ := o_bs hf
  refine k_gol (va_runS (As := [.long r72, .ref (q 1), .int 20, .int (4 * ((gR u 0) ((1 : Int32).toNatClampNeg)))]) (rest := []) ⟨hx, hb, hml, hown, hts⟩ (zX6_mixed l D cy sa (WM q cy u ++ rest) H.size 1 (q 1) 200 (gR u 0) r72 20 (4 * ((gR u 0) ((1 : Int32).toNatClampNeg))) r91 rfl h91r) (va_cwS 4 hts (gB_S wB912 wB913 wB5 wB914) rfl rfl rfl (by decide +kernel) ⟨Nat.le_of_ble_eq_true rfl, Nat.le_of_ble_eq_true rfl⟩) ⟨kP.blind, k_pre hP hD hS hE hA⟩ rfl rfl hl.1 rfl (lv_room (Nat.le_of_ble_eq_true rfl)) dX6_digest_91 ⟨Nat.zero_le _, Nat.zero_le _⟩) hD hS hA (fun H locs hP hD hS => ?_)
  refine lv_lstore_n (lv' := [(1, .long r91), (0, .ref (q 0))]) hx hb dX6_digest_94 rfl hl (by decide) rfl (fun ls hl => ?_)
  refine lv_lload_n hx hb dX6_digest_95 rfl (lv_at hl 0 rfl) ?_
  refine lv_aload_n hx hb dX6_digest_96 rfl (lv_at hl 1 rfl) ?_
  refine va_get (ci := 6) (v := .ref (q 1)) (C := RX6) (T := TX6) (N := 26) hx hb hts inlX6 hown hE.1 hP 0 rfl rfl 0 (by decide) (hts _ wB83) (fun _ h9 => h9) rfl dX6_digest_97 ?_
  refine lv_bipush (v := 60) hx hb dX6_digest_100 (by decide) ?_
  refine lv_iconst (v := 3) hx hb dX6_digest_102 (by decide) ?_
  refine lv_aload_n hx hb dX6_digest_103 rfl (lv_at hl 1 rfl) ?_
  refine va_get (ci := 6) (v := .ref (q 1)) (C := RX6) (T := TX6) (N := 26) hx hb hts inlX6 hown hE.1 hP 0 rfl rfl 0 (by decide) (hts _ wB83) (fun _ h9 => h9) rfl dX6_digest_104 ?_
  refine lv_iconst (v := 2) hx hb dX6_digest_107 (by decide) ?_
  refine va_iald (f := (gR u 0)) hx hb hE.1 hP 1 0 rfl rfl (k_in (by decide)) dX6_digest_108 ?_
  refine lv_imul hx hb dX6_digest_109 ?_
  obtain ⟨r110, h110r, hf⟩ := o_bs hf
  refine k_gol (va_runS (As := [.long r91, .ref (q 1), .int 60, .int (3 * ((gR u 0) ((2 : Int32).toNatClampNeg)))]) (rest := []) ⟨hx, hb, hml, hown, hts⟩ (zX6_mixed l D cy sa (WM q cy u ++ rest) H.size 1 (q 1) 200 (gR u 0) r91 60 (3 * ((gR u 0) ((2 : Int32).toNatClampNeg))) r110 rfl h110r) (va_cwS 4 hts (gB_S wB912 wB913 wB5 wB914) rfl rfl rfl (by decide +kernel) ⟨Nat.le_of_ble_eq_true rfl, Nat.le_of_ble_eq_true rfl⟩) ⟨kP.blind, k_pre hP hD hS hE hA⟩ rfl rfl hl.1 rfl (lv_room (Nat.le_of_ble_eq_true rfl)) dX6_digest_110 ⟨Nat.zero_le _, Nat.zero_le _⟩) hD hS hA (fun H locs hP hD hS => ?_)
  refine lv_lstore_n (lv' := [(1, .long r110), (0, .ref (q 0))]) hx hb dX6_digest_113 rfl hl (by decide) rfl (fun ls hl => ?_)
  refine lv_ldc2 (v := 31) hx hb hown (hts _ wB910) dX6_digest_114 ?_
  refine lv_ldc2 (v := 31) hx hb hown (hts _ wB910) dX6_digest_117 ?_
  refine lv_ldc2 (v := 31) hx hb hown (hts _ wB910) dX6_digest_120 ?_
  refine lv_lload_n hx hb dX6_digest_123 rfl (lv_at hl 0 rfl) ?_
  refine lv_lmul hx hb dX6_digest_124 ?_
  refine lv_aload_n hx hb dX6_digest_125 rfl (lv_at hl 1 rfl) ?_
  obtain ⟨r126, h126r, hf⟩ := o_bs hf
  refine k_goi (va_runV (As := []) (rest := [.long (31 * r110), .long 31, .long 31]) ⟨hx, hb, hml, hown, hts⟩ (zX6_signNow l D cy sa q rest H.size u  r126 h126r) (cwV 0 hts (gB_V wB829 wB830 wB831 wB5 wB832) rfl rfl rfl (by decide +kernel) ⟨Nat.le_of_ble_eq_true rfl, Nat.le_of_ble_eq_true rfl⟩) ⟨kP.blind, k_recv hE hP (ci := 6) (q0 := 0) rfl rfl, k_pre hP hD hS hE hA⟩ rfl rfl hl.1 rfl (lv_room (Nat.le_of_ble_eq_true rfl)) dX6_digest_126 ⟨Nat.zero_le _, Nat.zero_le _⟩) hD hS hA (fun H locs hP hD hS => ?_)
  refine lv_i2l (v := (r126.toInt64)) hx hb dX6_digest_129 rfl ?_
  refine lv_ladd hx hb dX6_digest_130 ?_
  refine lv_lmul hx hb dX6_digest_131 ?_
  refine lv_aload_n hx hb dX6_digest_132 rfl (lv_at hl 1 rfl) ?_
  refine va_get (ci := 6) (v := .ref (q 6)) (C := RX6) (T := TX6) (N := 26) hx hb hts inlX6 hown hE.1 hP 0 rfl rfl 6 (by decide) (hts _ wB89) (fun _ h9 => h9) rfl dX6_digest_133 ?_
  refine lv_iconst (v := 0) hx hb dX6_digest_136 (by decide) ?_
  refine va_iald (f := (gR u 5)) hx hb hE.1 hP 6 0 rfl rfl (k_in (by decide)) dX6_digest_137 ?_
  refine lv_i2l (v := (((gR u 5) ((0 : Int32).toNatClampNeg)).toInt64)) hx hb dX6_digest_138 rfl ?_
  refine lv_ladd hx hb dX6_digest_139 ?_
  refine lv_lmul hx hb dX6_digest_140 ?_
  refine lv_aload_n hx hb dX6_digest_141 rfl (lv_at hl 1 rfl) ?_
  refine va_get (ci := 6) (v := .ref (q 6)) (C := RX6) (T := TX6) (N := 26) hx hb hts inlX6 hown hE.1 hP 0 rfl rfl 6 (by decide) (hts _ wB89) (fun _ h9 => h9) rfl dX6_digest_142 ?_
  refine lv_iconst (v := 1) hx hb dX6_digest_145 (by decide) ?_
  refine va_iald (f := (gR u 5)) hx hb hE.1 hP 6 0 rfl rfl (k_in (by decide)) dX6_digest_146 ?_
  refine lv_i2l (v := (((gR u 5) ((1 : Int32).toNatClampNeg)).toInt64)) hx hb dX6_digest_147 rfl ?_
  refine lv_ladd hx hb dX6_digest_148 ?_
  refine lv_lstore_n (lv' := [(1, .long ((31 * ((31 * ((31 * r110) + (r126.toInt64))) + (((gR u 5) ((0 : Int32).toNatClampNeg)).toInt64))) + (((gR u 5) ((1 : Int32).toNatClampNeg)).toInt64))), (0, .ref (q 0))]) hx hb dX6_digest_149 rfl hl (by decide) rfl (fun ls hl => ?_)
  refine lv_lload_n hx hb dX6_digest_150 rfl (lv_at hl 0 rfl) ?_
  refine lv_aload_n hx hb dX6_digest_151 rfl (lv_at hl 1 rfl) ?_
  refine va_get (ci := 6) (v := .ref (q 5)) (C := RX6) (T := TX6) (N := 26) hx hb hts inlX6 hown hE.1 hP 0 rfl rfl 5 (by decide) (hts _ wB88) (fun _ h9 => h9) rfl dX6_digest_152 ?_
  refine lv_iconst (v := 0) hx hb dX6_digest_155 (by decide) ?_
  refine lv_aload_n hx hb dX6_digest_156 rfl (lv_at hl 1 rfl) ?_
  refine va_get (ci := 6) (v := .ref (q 6)) (C := RX6) (T := TX6) (N := 26) hx hb hts inlX6 hown hE.1 hP 0 rfl rfl 6 (by decide) (hts _ wB89) (fun _ h9 => h9) rfl dX6_digest_157 ?_
  refine lv_iconst (v := 0) hx hb dX6_digest_160 (by decide) ?_
  refine va_iald (f := (gR u 5)) hx hb hE.1 hP 6 0 rfl rfl (k_in (by decide)) dX6_digest_161 ?_
  obtain ⟨r162, h162r, hf⟩ := o_bs hf
  refine k_gol (va_runS (As := [.long ((31 * ((31 * ((31 * r110) + (r126.toInt64))) + (((gR u 5) ((0 : Int32).toNatClampNeg)).toInt64))) + (((gR u 5) ((1 : Int32).toNatClampNeg)).toInt64)), .ref (q 5), .int 0, .int ((gR u 5) ((0 : Int32).toNatClampNeg))]) (rest := []) ⟨hx, hb, hml, hown, hts⟩ (zX6_mixed l D cy sa (WM q cy u ++ rest) H.size 5 (q 5) 84 (gR u 4) ((31 * ((31 * ((31 * r110) + (r126.toInt64))) + (((gR u 5) ((0 : Int32).toNatClampNeg)).toInt64))) + (((gR u 5) ((1 : Int32).toNatClampNeg)).toInt64)) 0 ((gR u 5) ((0 : Int32).toNatClampNeg)) r162 rfl h162r) (va_cwS 4 hts (gB_S wB912 wB913 wB5 wB914) rfl rfl rfl (by decide +kernel) ⟨Nat.le_of_ble_eq_true rfl, Nat.le_of_ble_eq_true rfl⟩) ⟨kP.blind, k_pre hP hD hS hE hA⟩ rfl rfl hl.1 rfl (lv_room (Nat.le_of_ble_eq_true rfl)) dX6_digest_162 ⟨Nat.zero_le _, Nat.zero_le _⟩) hD hS hA (fun H locs hP hD hS => ?_)
  refine lv_lstore_n (lv' := [(1, .long r162), (0, .ref (q 0))]) hx hb dX6_digest_165 rfl hl (by decide) rfl (fun ls hl => ?_)
  refine lv_lload_n hx hb dX6_digest_166 rfl (lv_at hl 0 rfl) ?_
  refine lv_aload_n hx hb dX6_digest_167 rfl (lv_at hl 1 rfl) ?_
  refine va_get (ci := 6) (v := .ref (q 5)) (C := RX6) (T := TX6) (N := 26) hx hb hts inlX6 hown hE.1 hP 0 rfl rfl 5 (by decide) (hts _ wB88) (fun _ h9 => h9) rfl dX6_digest_168 ?_
  refine lv_bipush (v := 12) hx hb dX6_digest_171 (by decide) ?_
  refine lv_aload_n hx hb dX6_digest_173 rfl (lv_at hl 1 rfl) ?_
  refine va_get (ci := 6) (v := .ref (q 6)) (C := RX6) (T := TX6) (N := 26) hx hb hts inlX6 hown hE.1 hP 0 rfl rfl 6 (by decide) (hts _ wB89) (fun _ h9 => h9) rfl dX6_digest_174 ?_
  refine lv_iconst (v := 1) hx hb dX6_digest_177 (by decide) ?_
  refine va_iald (f := (gR u 5)) hx hb hE.1 hP 6 0 rfl rfl (k_in (by decide)) dX6_digest_178 ?_
  obtain ⟨r179, h179r, hf⟩ := o_bs hf
  refine k_gol (va_runS (As := [.long r162, .ref (q 5), .int 12, .int ((gR u 5) ((1 : Int32).toNatClampNeg))]) (rest := []) ⟨hx, hb, hml, hown, hts⟩ (zX6_mixed l D cy sa (WM q cy u ++ rest) H.size 5 (q 5) 84 (gR u 4) r162 12 ((gR u 5) ((1 : Int32).toNatClampNeg)) r179 rfl h179r) (va_cwS 4 hts (gB_S wB912 wB913 wB5 wB914) rfl rfl rfl (by decide +kernel) ⟨Nat.le_of_ble_eq_true rfl, Nat.le_of_ble_eq_true rfl⟩) ⟨kP.blind, k_pre hP hD hS hE hA⟩ rfl rfl hl.1 rfl (lv_room (Nat.le_of_ble_eq_true rfl)) dX6_digest_179 ⟨Nat.zero_le _, Nat.zero_le _⟩) hD hS hA (fun H locs hP hD hS => ?_)
  obtain rfl := o_ret hf
  exact k_lret hx hb hr hP hD hS (Nat.zero_le _) (Nat.zero_le _) hlocks dX6_digest_182
noncomputable def mX6_isDeep (a0 : Int32) : Option (Int32) :=
  (mX6_in (a0.toInt64) 1 3).bind fun r6 =>
  gd (r6 = 0 ∨ r6 = 1) (some r6)
abbrev rmX6_isDeep : Room := { frames := 1, cells := 0, slots := 0, locals := 25 }
set_option maxRecDepth 100000 in
set_option maxHeartbeats 4000000 in
theorem zX6_isDeep (l : Launch) (D : va_G) (cy : Nat → ClassId) (sa : Nat → Nat) (ws : va_W) (sz : Nat) (a0 : Int32) (res : Int32) (hf : mX6_isDeep a0 = some res) : kMi l yX6_isDeep (wsK yX6_isDeep cX6_isDeep 1 (some .boolean)) rmX6_isDeep D cy sa (ws) sz [.int a0] res (ws) 0 0 := by
  refine kM_of (Qc := fun A => kQi D A res (ws)) (cc := cX6_isDeep) (maxL := 1) (ret := (some .boolean)) (by decide) (Nat.le_of_ble_eq_true rfl) ?_
  intro p e s m below meth c A hx hb hml hr hts hown hlocks hin hA hP hD hS hE hsz ls hl
  have hown : s.vm.findClass RX6 = some m.cls := hown
  obtain ⟨H, hH0⟩ : ∃ H, H = s.heap := ⟨_, rfl⟩
  obtain ⟨locs, hlocs0⟩ : ∃ locs : List Loc, locs = [] := ⟨_, rfl⟩
  have hP : va_P D vwCl (ws) H := by rw [hH0]; exact hP
  have hS : va_S A s.heap H locs := by rw [hH0, hlocs0]; exact hS
  have hl : lv_has ls 1 [(0, .int a0)] := hl
  suffices hgoal : W p l e rmX6_isDeep s m ([.int a0] : List Value).toArray below meth c H locs 0 0 (MQ below (kQi D A res (ws)) ([.int a0] : List Value).toArray s 0 0 A) (F0 m 0 ls []) by rw [hH0, hlocs0] at hgoal; exact hgoal
  clear hH0 hlocs0
  unfold mX6_isDeep at hf
  refine lv_iload_n hx hb dX6_isDeep_0 rfl (lv_at hl 0 rfl) ?_
  refine lv_i2l (v := (a0.toInt64)) hx hb dX6_isDeep_1 rfl ?_
  refine lv_lconst (v := 1) hx hb dX6_isDeep_2 (by decide) ?_
  refine lv_ldc2 (v := 3) hx hb hown (hts _ wB376) dX6_isDeep_3 ?_
  obtain ⟨r6, h6r, hf⟩ := o_bs hf
  refine k_goi (va_runS (As := [.long (a0.toInt64), .long 1, .long 3]) (rest := []) ⟨hx, hb, hml, hown, hts⟩ (zX6_in l D cy sa (ws) H.size (a0.toInt64) 1 3  r6  h6r) (va_cwS 3 hts (gB_S wB141 wB142 wB5 wB143) rfl rfl rfl (by decide +kernel) ⟨Nat.le_of_ble_eq_true rfl, Nat.le_of_ble_eq_true rfl⟩) ⟨kP.blind, k_pre hP hD hS hE hA⟩ rfl rfl hl.1 rfl (lv_room (Nat.le_of_ble_eq_true rfl)) dX6_isDeep_6 ⟨Nat.zero_le _, Nat.zero_le _⟩) hD hS hA (fun H locs hP hD hS => ?_)
  obtain ⟨hgz, hf⟩ := gd_s hf
  obtain rfl := o_ret hf
  exact k_zret (v := _) hx hb hr hP hD hS (k_nar01 hgz) (Nat.zero_le _) (Nat.zero_le _) hlocks dX6_isDeep_9
noncomputable def mX6_isDrive (a0 : Int32) (a1 : Int32) (a2 : Int32) : Option (Int32) :=
  (mX6_isDeep a0).bind fun r1 =>
  if r1 = 0 then
  (some 0)
  else
  ((mX6_in (a1.toInt64) 0 999).bind fun r13 =>
  if r13 = 0 then
  (some 0)
  else
  ((mX6_in (a2.toInt64) 0 99999).bind fun r25 =>
  if r25 = 0 then
  (some 0)
  else
  (some 1)))
abbrev rmX6_isDrive : Room := { frames := 2, cells := 0, slots := 0, locals := 45 }
set_option maxRecDepth 100000 in
set_option maxHeartbeats 4000000 in
theorem zX6_isDrive (l : Launch) (D : va_G) (cy : Nat → ClassId) (sa : Nat → Nat) (ws : va_W) (sz : Nat) (a0 : Int32) (a1 : Int32) (a2 : Int32) (res : Int32) (hf : mX6_isDrive a0 a1 a2 = some res) : kMi l yX6_isDrive (wsK yX6_isDrive cX6_isDrive 3 (some .boolean)) rmX6_isDrive D cy sa (ws) sz [.int a0, .int a1, .int a2] res (ws) 0 0 := by
  refine kM_of (Qc := fun A => kQi D A res (ws)) (cc := cX6_isDrive) (maxL := 3) (ret := (some .boolean)) (by decide) (Nat.le_of_ble_eq_true rfl) ?_
  intro p e s m below meth c A hx hb hml hr hts hown hlocks hin hA hP hD hS hE hsz ls hl
  have hown : s.vm.findClass RX6 = some m.cls := hown
  obtain ⟨H, hH0⟩ : ∃ H, H = s.heap := ⟨_, rfl⟩
  obtain ⟨locs, hlocs0⟩ : ∃ locs : List Loc, locs = [] := ⟨_, rfl⟩
  have hP : va_P D vwCl (ws) H := by rw [hH0]; exact hP
  have hS : va_S A s.heap H locs := by rw [hH0, hlocs0]; exact hS
  have hl : lv_has ls 3 [(0, .int a0), (1, .int a1), (2, .int a2)] := hl
  suffices hgoal : W p l e rmX6_isDrive s m ([.int a0, .int a1, .int a2] : List Value).toArray below meth c H locs 0 0 (MQ below (kQi D A res (ws)) ([.int a0, .int a1, .int a2] : List Value).toArray s 0 0 A) (F0 m 0 ls []) by rw [hH0, hlocs0] at hgoal; exact hgoal
  clear hH0 hlocs0
  unfold mX6_isDrive at hf
  refine lv_iload_n hx hb dX6_isDrive_0 rfl (lv_at hl 0 rfl) ?_
  obtain ⟨r1, h1r, hf⟩ := o_bs hf
  refine k_goi (va_runS (As := [.int a0]) (rest := []) ⟨hx, hb, hml, hown, hts⟩ (zX6_isDeep l D cy sa (ws) H.size a0  r1  h1r) (va_cwS 1 hts (gB_S wB722 wB723 wB5 wB724) rfl rfl rfl (by decide +kernel) ⟨Nat.le_of_ble_eq_true rfl, Nat.le_of_ble_eq_true rfl⟩) ⟨kP.blind, k_pre hP hD hS hE hA⟩ rfl rfl hl.1 rfl (lv_room (Nat.le_of_ble_eq_true rfl)) dX6_isDrive_1 ⟨Nat.zero_le _, Nat.zero_le _⟩) hD hS hA (fun H locs hP hD hS => ?_)
  refine lv_if_eq (tgt := 35) hx hb dX6_isDrive_4 (by decide) (fun c4 => ?_) (fun c4 => ?_)
  · have hf := o_ip c4 hf
    refine lv_iconst (v := 0) hx hb dX6_isDrive_35 (by decide) ?_
    obtain rfl := o_ret hf
    exact k_zret (v := 0) hx hb hr hP hD hS rfl (Nat.zero_le _) (Nat.zero_le _) hlocks dX6_isDrive_36
  · have hf := o_in c4 hf
    refine lv_iload_n hx hb dX6_isDrive_7 rfl (lv_at hl 1 rfl) ?_
    refine lv_i2l (v := (a1.toInt64)) hx hb dX6_isDrive_8 rfl ?_
    refine lv_lconst (v := 0) hx hb dX6_isDrive_9 (by decide) ?_
    refine lv_ldc2 (v := 999) hx hb hown (hts _ wB770) dX6_isDrive_10 ?_
    obtain ⟨r13, h13r, hf⟩ := o_bs hf
    refine k_goi (va_runS (As := [.long (a1.toInt64), .long 0, .long 999]) (rest := []) ⟨hx, hb, hml, hown, hts⟩ (zX6_in l D cy sa (ws) H.size (a1.toInt64) 0 999  r13  h13r) (va_cwS 3 hts (gB_S wB141 wB142 wB5 wB143) rfl rfl rfl (by decide +kernel) ⟨Nat.le_of_ble_eq_true rfl, Nat.le_of_ble_eq_true rfl⟩) ⟨kP.blind, k_pre hP hD hS hE hA⟩ rfl rfl hl.1 rfl (lv_room (Nat.le_of_ble_eq_true rfl)) dX6_isDrive_13 ⟨Nat.zero_le _, Nat.zero_le _⟩) hD hS hA (fun H locs hP hD hS => ?_)
    refine lv_if_eq (tgt := 35) hx hb dX6_isDrive_16 (by decide) (fun c16 => ?_) (fun c16 => ?_)
    · have hf := o_ip c16 hf
      refine lv_iconst (v := 0) hx hb dX6_isDrive_35 (by decide) ?_
      obtain rfl := o_ret hf
      exact k_zret (v := 0) hx hb hr hP hD hS rfl (Nat.zero_le _) (Nat.zero_le _) hlocks dX6_isDrive_36
    · have hf := o_in c16 hf
      refine lv_iload_n hx hb dX6_isDrive_19 rfl (lv_at hl 2 rfl) ?_
      refine lv_i2l (v := (a2.toInt64)) hx hb dX6_isDrive_20 rfl ?_
      refine lv_lconst (v := 0) hx hb dX6_isDrive_21 (by decide) ?_
      refine lv_ldc2 (v := 99999) hx hb hown (hts _ wB683) dX6_isDrive_22 ?_
      obtain ⟨r25, h25r, hf⟩ := o_bs hf
      refine k_goi (va_runS (As := [.long (a2.toInt64), .long 0, .long 99999]) (rest := []) ⟨hx, hb, hml, hown, hts⟩ (zX6_in l D cy sa (ws) H.size (a2.toInt64) 0 99999  r25  h25r) (va_cwS 3 hts (gB_S wB141 wB142 wB5 wB143) rfl rfl rfl (by decide +kernel) ⟨Nat.le_of_ble_eq_true rfl, Nat.le_of_ble_eq_true rfl⟩) ⟨kP.blind, k_pre hP hD hS hE hA⟩ rfl rfl hl.1 rfl (lv_room (Nat.le_of_ble_eq_true rfl)) dX6_isDrive_25 ⟨Nat.zero_le _, Nat.zero_le _⟩) hD hS hA (fun H locs hP hD hS => ?_)
      refine lv_if_eq (tgt := 35) hx hb dX6_isDrive_28 (by decide) (fun c28 => ?_) (fun c28 => ?_)
      · have hf := o_ip c28 hf
        refine lv_iconst (v := 0) hx hb dX6_isDrive_35 (by decide) ?_
        obtain rfl := o_ret hf
        exact k_zret (v := 0) hx hb hr hP hD hS rfl (Nat.zero_le _) (Nat.zero_le _) hlocks dX6_isDrive_36
      · have hf := o_in c28 hf
        refine lv_iconst (v := 1) hx hb dX6_isDrive_31 (by decide) ?_
        refine lv_goto (tgt := 36) hx hb dX6_isDrive_32 (by decide) ?_
        obtain rfl := o_ret hf
        exact k_zret (v := 1) hx hb hr hP hD hS rfl (Nat.zero_le _) (Nat.zero_le _) hlocks dX6_isDrive_36
noncomputable def mX6_goesOn_s6 (c1 : Int32) (c2 : Int32) (c3 : Int32) (c4 : Int32) (c5 : Int64) (s6 : Int32 × KS) : Option ((KS) ⊕ (Int32 × KS)) :=
  if 5 ≤ s6.1 then
  (some (.inl s6.2))
  else
  (gd (inb s6.1 44) (some (.inr ((s6.1 + 1), (sA s6.2 2 (vp_updL (gA s6.2 2) (s6.1.toNatClampNeg) 0))))))
noncomputable def mX6_goesOn_s69 (c1 : Int32) (c2 : Int32) (c3 : Int32) (c4 : Int32) (c5 : Int64) (c7 : Int32) (c8 : Int64) (c10 : Int32) (s69 : Int64 × Int32 × KS) : Option (((Int64 × KS)) ⊕ (Int64 × Int32 × KS)) :=
  if 10 ≤ s69.2.1 then
  (some (.inl (s69.1, s69.2.2)))
  else
  (if c10 = 3 then
  (gd (inb ((4 * (c7 - 1)) + c10) 44) (if s69.2.1 = 0 then
  (if c10 = c1 then
  (some (.inr ((((((s69.2.1 * c3).toInt64) * c5) + ((s69.2.1.toInt64) * (((-c4).toInt64) * c8))) + (((20 - s69.2.1).toInt64) * ((gA s69.2.2 2) (((4 * (c7 - 1)) + c10).toNatClampNeg)))), (s69.2.1 + 1), (sI s69.2.2 10 s69.2.1))))
  else
  (some (.inr ((((((s69.2.1 * c3).toInt64) * c5) + ((s69.2.1.toInt64) * (((-c4).toInt64) * c8))) + (((20 - s69.2.1).toInt64) * ((gA s69.2.2 2) (((4 * (c7 - 1)) + c10).toNatClampNeg)))), (s69.2.1 + 1), (sI s69.2.2 10 (gI s69.2.2 10))))))
  else
  (if (lg_cmp (((((s69.2.1 * c3).toInt64) * c5) + ((s69.2.1.toInt64) * (((-c4).toInt64) * c8))) + (((20 - s69.2.1).toInt64) * ((gA s69.2.2 2) (((4 * (c7 - 1)) + c10).toNatClampNeg)))) s69.1) ≤ 0 then
  (some (.inr (s69.1, (s69.2.1 + 1), s69.2.2)))
  else
  (if c10 = c1 then
  (some (.inr ((((((s69.2.1 * c3).toInt64) * c5) + ((s69.2.1.toInt64) * (((-c4).toInt64) * c8))) + (((20 - s69.2.1).toInt64) * ((gA s69.2.2 2) (((4 * (c7 - 1)) + c10).toNatClampNeg)))), (s69.2.1 + 1), (sI s69.2.2 10 s69.2.1))))
  else
  (some (.inr ((((((s69.2.1 * c3).toInt64) * c5) + ((s69.2.1.toInt64) * (((-c4).toInt64) * c8))) + (((20 - s69.2.1).toInt64) * ((gA s69.2.2 2) (((4 * (c7 - 1)) + c10).toNatClampNeg)))), (s69.2.1 + 1), (sI s69.2.2 10 (gI s69.2.2 10)))))))))
  else
  (gd (inb (((4 * (c7 - 1)) + c10) + 1) 44) (gd (inb ((4 * (c7 - 1)) + c10) 44) (if s69.2.1 = 0 then
  (if c10 = c1 then
  (some (.inr ((((((s69.2.1 * c3).toInt64) * c5) + ((s69.2.1.toInt64) * ((gA s69.2.2 2) ((((4 * (c7 - 1)) + c10) + 1).toNatClampNeg)))) + (((20 - s69.2.1).toInt64) * ((gA s69.2.2 2) (((4 * (c7 - 1)) + c10).toNatClampNeg)))), (s69.2.1 + 1), (sI s69.2.2 10 s69.2.1))))
  else
  (some (.inr ((((((s69.2.1 * c3).toInt64) * c5) + ((s69.2.1.toInt64) * ((gA s69.2.2 2) ((((4 * (c7 - 1)) + c10) + 1).toNatClampNeg)))) + (((20 - s69.2.1).toInt64) * ((gA s69.2.2 2) (((4 * (c7 - 1)) + c10).toNatClampNeg)))), (s69.2.1 + 1), (sI s69.2.2 10 (gI s69.2.2 10))))))
  else
  (if (lg_cmp (((((s69.2.1 * c3).toInt64) * c5) + ((s69.2.1.toInt64) * ((gA s69.2.2 2) ((((4 * (c7 - 1)) + c10) + 1).toNatClampNeg)))) + (((20 - s69.2.1).toInt64) * ((gA s69.2.2 2) (((4 * (c7 - 1)) + c10).toNatClampNeg)))) s69.1) ≤ 0 then
  (some (.inr (s69.1, (s69.2.1 + 1), s69.2.2)))
  else
  (if c10 = c1 then
  (some (.inr ((((((s69.2.1 * c3).toInt64) * c5) + ((s69.2.1.toInt64) * ((gA s69.2.2 2) ((((4 * (c7 - 1)) + c10) + 1).toNatClampNeg)))) + (((20 - s69.2.1).toInt64) * ((gA s69.2.2 2) (((4 * (c7 - 1)) + c10).toNatClampNeg)))), (s69.2.1 + 1), (sI s69.2.2 10 s69.2.1))))
  else
  (some (.inr ((((((s69.2.1 * c3).toInt64) * c5) + ((s69.2.1.toInt64) * ((gA s69.2.2 2) ((((4 * (c7 - 1)) + c10) + 1).toNatClampNeg)))) + (((20 - s69.2.1).toInt64) * ((gA s69.2.2 2) (((4 * (c7 - 1)) + c10).toNatClampNeg)))), (s69.2.1 + 1), (sI s69.2.2 10 (gI s69.2.2 10)))))))))))
noncomputable def mX6_goesOn_s55 (c1 : Int32) (c2 : Int32) (c3 : Int32) (c4 : Int32) (c5 : Int64) (c7 : Int32) (c8 : Int64) (s55 : Int32 × KS) : Option ((KS) ⊕ (Int32 × KS)) :=
  if 4 ≤ s55.1 then
  (some (.inl s55.2))
  else
  ((lpF (mX6_goesOn_s69 c1 c2 c3 c4 c5 c7 c8 s55.1) ((-1), 0, s55.2)).bind fun e69 =>
  gd (inb ((4 * c7) + s55.1) 44) (some (.inr ((s55.1 + 1), (sA e69.2 2 (vp_updL (gA e69.2 2) (((4 * c7) + s55.1).toNatClampNeg) e69.1))))))
noncomputable def mX6_goesOn_s34 (c1 : Int32) (c2 : Int32) (c3 : Int32) (c4 : Int32) (s34 : Int64 × Int32 × KS) : Option (((Int64 × KS)) ⊕ (Int64 × Int32 × KS)) :=
  if c2 < s34.2.1 then
  (some (.inl (s34.1, s34.2.2)))
  else
  ((lpF (mX6_goesOn_s55 c1 c2 c3 c4 (s34.1 * 20) s34.2.1 s34.1) (1, s34.2.2)).bind fun e55 =>
  some (.inr ((s34.1 * 20), (s34.2.1 + 1), e55)))
noncomputable def mX6_goesOn (u : KS) (a1 : Int32) (a2 : Int32) (a3 : Int32) (a4 : Int32) : Option (Int64 × KS) :=
  (lpF (mX6_goesOn_s6 a1 a2 a3 a4 1) (0, u)).bind fun e6 =>
  (lpF (mX6_goesOn_s34 a1 a2 a3 a4) (1, 1, (sI e6 10 0))).bind fun e34 =>
  some (e34.1, e34.2)
abbrev rmX6_goesOn : Room := { frames := 0, cells := 0, slots := 0, locals := 0 }
set_option maxRecDepth 100000 in
set_option maxHeartbeats 4000000 in
theorem zX6_goesOn (l : Launch) (D : va_G) (cy : Nat → ClassId) (sa : Nat → Nat) (q : Nat → Nat) (rest : va_W) (sz : Nat) (u : KS) (a1 : Int32) (a2 : Int32) (a3 : Int32) (a4 : Int32) (res : Int64 × KS) (hf : mX6_goesOn u a1 a2 a3 a4 = some res) : kMl l yX6_goesOn (wsK yX6_goesOn cX6_goesOn 18 (some .long)) rmX6_goesOn D cy sa (WM q cy u ++ rest) sz [.ref (q 0), .int a1, .int a2, .int a3, .int a4] res.1 (WM q cy res.2 ++ rest) 0 0 := by
  refine kM_of (Qc := fun A => kQl D A res.1 (WM q cy res.2 ++ rest)) (cc := cX6_goesOn) (maxL := 18) (ret := (some .long)) (by decide) (Nat.le_of_ble_eq_true rfl) ?_
  intro p e s m below meth c A hx hb hml hr hts hown hlocks hin hA hP hD hS hE hsz ls hl
  have hown : s.vm.findClass RX6 = some m.cls := hown
  obtain ⟨H, hH0⟩ : ∃ H, H = s.heap := ⟨_, rfl⟩
  obtain ⟨locs, hlocs0⟩ : ∃ locs : List Loc, locs = [] := ⟨_, rfl⟩
  have hP : va_P D vwCl (WM q cy u ++ rest) H := by rw [hH0]; exact hP
  have hS : va_S A s.heap H locs := by rw [hH0, hlocs0]; exact hS
  have hl : lv_has ls 18 [(0, .ref (q 0)), (1, .int a1), (2, .int a2), (3, .int a3), (4, .int a4)] := hl
  suffices hgoal : W p l e rmX6_goesOn s m ([.ref (q 0), .int a1, .int a2, .int a3, .int a4] : List Value).toArray below meth c H locs 0 0 (MQ below (kQl D A res.1 (WM q cy res.2 ++ rest)) ([.ref (q 0), .int a1, .int a2, .int a3, .int a4] : List Value).toArray s 0 0 A) (F0 m 0 ls []) by rw [hH0, hlocs0] at hgoal; exact hgoal
  clear hH0 hlocs0
  unfold mX6_goesOn at hf
  refine lv_lconst (v := 1) hx hb dX6_goesOn_0 (by decide) ?_
  refine lv_lstore (lv' := [(5, .long 1), (0, .ref (q 0)), (1, .int a1), (2, .int a2), (3, .int a3), (4, .int a4)]) hx hb dX6_goesOn_1 hl (by decide) rfl (fun ls hl => ?_)
  refine lv_iconst (v := 0) hx hb dX6_goesOn_3 (by decide) ?_
  refine lv_istore (lv' := [(7, .int 0), (5, .long 1), (0, .ref (q 0)), (1, .int a1), (2, .int a2), (3, .int a3), (4, .int a4)]) hx hb dX6_goesOn_4 hl (by decide) rfl (fun ls hl => ?_)
  have L6 : ∀ (n6v : Nat) (s6 : Int32 × KS) (e6 : KS), lpO (mX6_goesOn_s6 a1 a2 a3 a4 1) n6v s6 = some e6 → ∀ (H : Heap) (locs : List Loc) (ls : Array Slot), va_P D vwCl (WM q cy s6.2 ++ rest) H → va_D A (WM q cy s6.2 ++ rest) → va_S A s.heap H locs → lv_has ls 18 [(0, .ref (q 0)), (1, .int a1), (2, .int a2), (3, .int a3), (4, .int a4), (5, .long 1), (7, .int s6.1)] → (∀ (H : Heap) (locs : List Loc) (ls : Array Slot), va_P D vwCl (WM q cy e6 ++ rest) H → va_D A (WM q cy e6 ++ rest) → va_S A s.heap H locs → lv_has ls 18 [(0, .ref (q 0)), (1, .int a1), (2, .int a2), (3, .int a3), (4, .int a4), (5, .long 1)] → W p l e rmX6_goesOn s m ([.ref (q 0), .int a1, .int a2, .int a3, .int a4] : List Value).toArray below meth c H locs 0 0 (MQ below (kQl D A res.1 (WM q cy res.2 ++ rest)) ([.ref (q 0), .int a1, .int a2, .int a3, .int a4] : List Value).toArray s 0 0 A) (F0 m 26 ls [])) → W p l e rmX6_goesOn s m ([.ref (q 0), .int a1, .int a2, .int a3, .int a4] : List Value).toArray below meth c H locs 0 0 (MQ below (kQl D A res.1 (WM q cy res.2 ++ rest)) ([.ref (q 0), .int a1, .int a2, .int a3, .int a4] : List Value).toArray s 0 0 A) (F0 m 6 ls []) := by
    intro n6v
    induction n6v with
    | zero => intro s6 e6 h; exact (lpO_z h).elim
    | succ n6v ih6 =>
      intro s6 e6 h6z H locs ls hP hD hS hl K6_0
      obtain ⟨x6, hf, h6z⟩ := lpO_s h6z
      unfold mX6_goesOn_s6 at hf
      refine lv_iload hx hb dX6_goesOn_6 (lv_at hl 6 rfl) ?_
      refine lv_iconst (v := 5) hx hb dX6_goesOn_8 (by decide) ?_
      refine lv_icmp_ge (tgt := 26) hx hb dX6_goesOn_9 (by decide) (fun c9 => ?_) (fun c9 => ?_)
      · have hf := o_ip c9 hf
        obtain rfl := o_ret hf
        obtain rfl := lpK_l h6z
        exact K6_0 _ _ _ hP hD hS (lv_sub hl [0, 1, 2, 3, 4, 5] rfl)
      · have hf := o_in c9 hf
        refine lv_aload_n hx hb dX6_goesOn_12 rfl (lv_at hl 0 rfl) ?_
        refine va_get (ci := 6) (v := .ref (q 14)) (C := RX6) (T := TX6) (N := 26) hx hb hts inlX6 hown hE.1 hP 0 rfl rfl 24 (by decide) (hts _ wB97) (fun _ h9 => h9) rfl dX6_goesOn_13 ?_
        refine lv_iload hx hb dX6_goesOn_16 (lv_at hl 6 rfl) ?_
        refine lv_lconst (v := 0) hx hb dX6_goesOn_18 (by decide) ?_
        obtain ⟨hg19, hf⟩ := gd_s hf
        refine va_last (f := (gA s6.2 2)) hx hb hE.1 hP hD hS 14 1 rfl rfl hg19 dX6_goesOn_19 (fun H locs hP hD hS => ?_)
        have hP : va_P D vwCl (WM q cy (sA s6.2 2 (vp_updL (gA s6.2 2) (s6.1.toNatClampNeg) 0)) ++ rest) H := hP
        have hD : va_D A (WM q cy (sA s6.2 2 (vp_updL (gA s6.2 2) (s6.1.toNatClampNeg) 0)) ++ rest) := hD
        refine lv_iinc (v := (s6.1 + 1)) (lv' := [(7, .int (s6.1 + 1)), (0, .ref (q 0)), (1, .int a1), (2, .int a2), (3, .int a3), (4, .int a4), (5, .long 1)]) hx hb dX6_goesOn_20 hl (k := 6) rfl (by rfl) (by decide) rfl (fun ls hl => ?_)
        refine lv_goto (tgt := 6) hx hb dX6_goesOn_23 (by decide) ?_
        obtain rfl := o_ret hf
        exact ih6 _ _ (lpK_r h6z) _ _ _ hP hD hS (lv_sub hl [1, 2, 3, 4, 5, 6, 0] rfl) K6_0
  obtain ⟨e6, h6q, hf⟩ := o_bs hf
  obtain ⟨n6v, h6q⟩ := lpF_ex h6q
  refine L6 n6v _ e6 h6q _ _ _ hP hD hS (lv_sub hl [2, 3, 4, 5, 6, 1, 0] rfl) ?_
  intro H locs ls hP hD hS hl
  refine lv_aload_n hx hb dX6_goesOn_26 rfl (lv_at hl 0 rfl) ?_
  refine lv_iconst (v := 0) hx hb dX6_goesOn_27 (by decide) ?_
  refine va_put (ci := 6) (v := .int 0) (ty := .int) (C := RX6) (T := TX6) (N := 26) hx hb hts inlX6 tyX6 tyX6_ok nmX6 hown hE.1 hP hD hS 0 rfl rfl 25 (by decide) (hts _ wB775) (fun _ h9 => h9) rfl (by decide +kernel) rfl rfl (Nat.le_of_ble_eq_true rfl) dX6_goesOn_28 (fun H locs hP hD hS => ?_)
  have hP : va_P D vwCl (WM q cy (sI e6 10 0) ++ rest) H := hP
  have hD : va_D A (WM q cy (sI e6 10 0) ++ rest) := hD
  refine lv_iconst (v := 1) hx hb dX6_goesOn_31 (by decide) ?_
  refine lv_istore (lv' := [(7, .int 1), (0, .ref (q 0)), (1, .int a1), (2, .int a2), (3, .int a3), (4, .int a4), (5, .long 1)]) hx hb dX6_goesOn_32 hl (by decide) rfl (fun ls hl => ?_)
  have L34 : ∀ (n34v : Nat) (s34 : Int64 × Int32 × KS) (e34 : (Int64 × KS)), lpO (mX6_goesOn_s34 a1 a2 a3 a4) n34v s34 = some e34 → ∀ (H : Heap) (locs : List Loc) (ls : Array Slot), va_P D vwCl (WM q cy s34.2.2 ++ rest) H → va_D A (WM q cy s34.2.2 ++ rest) → va_S A s.heap H locs → lv_has ls 18 [(0, .ref (q 0)), (1, .int a1), (2, .int a2), (3, .int a3), (4, .int a4), (5, .long s34.1), (7, .int s34.2.1)] → (∀ (H : Heap) (locs : List Loc) (ls : Array Slot), va_P D vwCl (WM q cy e34.2 ++ rest) H → va_D A (WM q cy e34.2 ++ rest) → va_S A s.heap H locs → lv_has ls 18 [(5, .long e34.1)] → W p l e rmX6_goesOn s m ([.ref (q 0), .int a1, .int a2, .int a3, .int a4] : List Value).toArray below meth c H locs 0 0 (MQ below (kQl D A res.1 (WM q cy res.2 ++ rest)) ([.ref (q 0), .int a1, .int a2, .int a3, .int a4] : List Value).toArray s 0 0 A) (F0 m 217 ls [])) → W p l e rmX6_goesOn s m ([.ref (q 0), .int a1, .int a2, .int a3, .int a4] : List Value).toArray below meth c H locs 0 0 (MQ below (kQl D A res.1 (WM q cy res.2 ++ rest)) ([.ref (q 0), .int a1, .int a2, .int a3, .int a4] : List Value).toArray s 0 0 A) (F0 m 34 ls []) := by
    intro n34v
    induction n34v with
    | zero => intro s34 e34 h; exact (lpO_z h).elim
    | succ n34v ih34 =>
      intro s34 e34 h34z H locs ls hP hD hS hl K34_0
      obtain ⟨x34, hf, h34z⟩ := lpO_s h34z
      unfold mX6_goesOn_s34 at hf
      refine lv_iload hx hb dX6_goesOn_34 (lv_at hl 6 rfl) ?_
      refine lv_iload_n hx hb dX6_goesOn_36 rfl (lv_at hl 2 rfl) ?_
      refine lv_icmp_gt (tgt := 217) hx hb dX6_goesOn_37 (by decide) (fun c37 => ?_) (fun c37 => ?_)
      · have hf := o_ip c37 hf
        obtain rfl := o_ret hf
        obtain rfl := lpK_l h34z
        exact K34_0 _ _ _ hP hD hS (lv_sub hl [5] rfl)
      · have hf := o_in c37 hf
        refine lv_lload hx hb dX6_goesOn_40 (lv_at hl 5 rfl) ?_
        refine lv_lstore (lv' := [(8, .long s34.1), (0, .ref (q 0)), (1, .int a1), (2, .int a2), (3, .int a3), (4, .int a4), (5, .long s34.1), (7, .int s34.2.1)]) hx hb dX6_goesOn_42 hl (by decide) rfl (fun ls hl => ?_)
        refine lv_lload hx hb dX6_goesOn_44 (lv_at hl 6 rfl) ?_
        refine lv_ldc2 (v := 20) hx hb hown (hts _ wB721) dX6_goesOn_46 ?_
        refine lv_lmul hx hb dX6_goesOn_49 ?_
        refine lv_lstore (lv' := [(5, .long (s34.1 * 20)), (8, .long s34.1), (0, .ref (q 0)), (1, .int a1), (2, .int a2), (3, .int a3), (4, .int a4), (7, .int s34.2.1)]) hx hb dX6_goesOn_50 hl (by decide) rfl (fun ls hl => ?_)
        refine lv_iconst (v := 1) hx hb dX6_goesOn_52 (by decide) ?_
        refine lv_istore (lv' := [(10, .int 1), (5, .long (s34.1 * 20)), (8, .long s34.1), (0, .ref (q 0)), (1, .int a1), (2, .int a2), (3, .int a3), (4, .int a4), (7, .int s34.2.1)]) hx hb dX6_goesOn_53 hl (by decide) rfl (fun ls hl => ?_)
        have L55 : ∀ (n55v : Nat) (s55 : Int32 × KS) (e55 : KS), lpO (mX6_goesOn_s55 a1 a2 a3 a4 (s34.1 * 20) s34.2.1 s34.1) n55v s55 = some e55 → ∀ (H : Heap) (locs : List Loc) (ls : Array Slot), va_P D vwCl (WM q cy s55.2 ++ rest) H → va_D A (WM q cy s55.2 ++ rest) → va_S A s.heap H locs → lv_has ls 18 [(0, .ref (q 0)), (1, .int a1), (2, .int a2), (3, .int a3), (4, .int a4), (5, .long (s34.1 * 20)), (7, .int s34.2.1), (8, .long s34.1), (10, .int s55.1)] → (∀ (H : Heap) (locs : List Loc) (ls : Array Slot), va_P D vwCl (WM q cy e55 ++ rest) H → va_D A (WM q cy e55 ++ rest) → va_S A s.heap H locs → lv_has ls 18 [(0, .ref (q 0)), (1, .int a1), (2, .int a2), (3, .int a3), (4, .int a4), (5, .long (s34.1 * 20)), (7, .int s34.2.1)] → W p l e rmX6_goesOn s m ([.ref (q 0), .int a1, .int a2, .int a3, .int a4] : List Value).toArray below meth c H locs 0 0 (MQ below (kQl D A res.1 (WM q cy res.2 ++ rest)) ([.ref (q 0), .int a1, .int a2, .int a3, .int a4] : List Value).toArray s 0 0 A) (F0 m 211 ls [])) → W p l e rmX6_goesOn s m ([.ref (q 0), .int a1, .int a2, .int a3, .int a4] : List Value).toArray below meth c H locs 0 0 (MQ below (kQl D A res.1 (WM q cy res.2 ++ rest)) ([.ref (q 0), .int a1, .int a2, .int a3, .int a4] : List Value).toArray s 0 0 A) (F0 m 55 ls []) := by
          intro n55v
          induction n55v with
          | zero => intro s55 e55 h; exact (lpO_z h).elim
          | succ n55v ih55 =>
            intro s55 e55 h55z H locs ls hP hD hS hl K55_0
            obtain ⟨x55, hf, h55z⟩ := lpO_s h55z
            unfold mX6_goesOn_s55 at hf
            refine lv_iload hx hb dX6_goesOn_55 (lv_at hl 8 rfl) ?_
            refine lv_iconst (v := 4) hx hb dX6_goesOn_57 (by decide) ?_
            refine lv_icmp_ge (tgt := 211) hx hb dX6_goesOn_58 (by decide) (fun c58 => ?_) (fun c58 => ?_)
            · have hf := o_ip c58 hf
              obtain rfl := o_ret hf
              obtain rfl := lpK_l h55z
              exact K55_0 _ _ _ hP hD hS (lv_sub hl [0, 1, 2, 3, 4, 5, 6] rfl)
            · have hf := o_in c58 hf
              refine lv_ldc2 (v := (-1)) hx hb hown (hts _ wB461) dX6_goesOn_61 ?_
              refine lv_lstore (lv' := [(11, .long (-1)), (0, .ref (q 0)), (1, .int a1), (2, .int a2), (3, .int a3), (4, .int a4), (5, .long (s34.1 * 20)), (7, .int s34.2.1), (8, .long s34.1), (10, .int s55.1)]) hx hb dX6_goesOn_64 hl (by decide) rfl (fun ls hl => ?_)
              refine lv_iconst (v := 0) hx hb dX6_goesOn_66 (by decide) ?_
              refine lv_istore (lv' := [(13, .int 0), (11, .long (-1)), (0, .ref (q 0)), (1, .int a1), (2, .int a2), (3, .int a3), (4, .int a4), (5, .long (s34.1 * 20)), (7, .int s34.2.1), (8, .long s34.1), (10, .int s55.1)]) hx hb dX6_goesOn_67 hl (by decide) rfl (fun ls hl => ?_)
              have L69 : ∀ (n69v : Nat) (s69 : Int64 × Int32 × KS) (e69 : (Int64 × KS)), lpO (mX6_goesOn_s69 a1 a2 a3 a4 (s34.1 * 20) s34.2.1 s34.1 s55.1) n69v s69 = some e69 → ∀ (H : Heap) (locs : List Loc) (ls : Array Slot), va_P D vwCl (WM q cy s69.2.2 ++ rest) H → va_D A (WM q cy s69.2.2 ++ rest) → va_S A s.heap H locs → lv_has ls 18 [(0, .ref (q 0)), (1, .int a1), (2, .int a2), (3, .int a3), (4, .int a4), (5, .long (s34.1 * 20)), (7, .int s34.2.1), (8, .long s34.1), (10, .int s55.1), (11, .long s69.1), (13, .int s69.2.1)] → (∀ (H : Heap) (locs : List Loc) (ls : Array Slot), va_P D vwCl (WM q cy e69.2 ++ rest) H → va_D A (WM q cy e69.2 ++ rest) → va_S A s.heap H locs → lv_has ls 18 [(0, .ref (q 0)), (1, .int a1), (2, .int a2), (3, .int a3), (4, .int a4), (5, .long (s34.1 * 20)), (7, .int s34.2.1), (8, .long s34.1), (10, .int s55.1), (11, .long e69.1)] → W p l e rmX6_goesOn s m ([.ref (q 0), .int a1, .int a2, .int a3, .int a4] : List Value).toArray below meth c H locs 0 0 (MQ below (kQl D A res.1 (WM q cy res.2 ++ rest)) ([.ref (q 0), .int a1, .int a2, .int a3, .int a4] : List Value).toArray s 0 0 A) (F0 m 191 ls [])) → W p l e rmX6_goesOn s m ([.ref (q 0), .int a1, .int a2, .int a3, .int a4] : List Value).toArray below meth c H locs 0 0 (MQ below (kQl D A res.1 (WM q cy res.2 ++ rest)) ([.ref (q 0), .int a1, .int a2, .int a3, .int a4] : List Value).toArray s 0 0 A) (F0 m 69 ls []) := by
                intro n69v
                induction n69v with
                | zero => intro s69 e69 h; exact (lpO_z h).elim
                | succ n69v ih69 =>
                  intro s69 e69 h69z H locs ls hP hD hS hl K69_0
                  obtain ⟨x69, hf, h69z⟩ := lpO_s h69z
                  unfold mX6_goesOn_s69 at hf
                  refine lv_iload hx hb dX6_goesOn_69 (lv_at hl 10 rfl) ?_
                  refine lv_bipush (v := 10) hx hb dX6_goesOn_71 (by decide) ?_
                  refine lv_icmp_ge (tgt := 191) hx hb dX6_goesOn_73 (by decide) (fun c73 => ?_) (fun c73 => ?_)
                  · have hf := o_ip c73 hf
                    obtain rfl := o_ret hf
                    obtain rfl := lpK_l h69z
                    exact K69_0 _ _ _ hP hD hS (lv_sub hl [0, 1, 2, 3, 4, 5, 6, 7, 8, 9] rfl)
                  · have hf := o_in c73 hf
                    refine lv_iload hx hb dX6_goesOn_76 (lv_at hl 8 rfl) ?_
                    refine lv_iconst (v := 3) hx hb dX6_goesOn_78 (by decide) ?_
                    refine lv_icmp_ne (tgt := 92) hx hb dX6_goesOn_79 (by decide) (fun c79 => ?_) (fun c79 => ?_)
                    · have hf := o_in c79 hf
                      refine lv_aload_n hx hb dX6_goesOn_92 rfl (lv_at hl 0 rfl) ?_
                      refine va_get (ci := 6) (v := .ref (q 14)) (C := RX6) (T := TX6) (N := 26) hx hb hts inlX6 hown hE.1 hP 0 rfl rfl 24 (by decide) (hts _ wB97) (fun _ h9 => h9) rfl dX6_goesOn_93 ?_
                      refine lv_iconst (v := 4) hx hb dX6_goesOn_96 (by decide) ?_
                      refine lv_iload hx hb dX6_goesOn_97 (lv_at hl 6 rfl) ?_
                      refine lv_iconst (v := 1) hx hb dX6_goesOn_99 (by decide) ?_
                      refine lv_isub hx hb dX6_goesOn_100 ?_
                      refine lv_imul hx hb dX6_goesOn_101 ?_
                      refine lv_iload hx hb dX6_goesOn_102 (lv_at hl 8 rfl) ?_
                      refine lv_iadd hx hb dX6_goesOn_104 ?_
                      refine lv_iconst (v := 1) hx hb dX6_goesOn_105 (by decide) ?_
                      refine lv_iadd hx hb dX6_goesOn_106 ?_
                      obtain ⟨hg107, hf⟩ := gd_s hf
                      refine va_lald (f := (gA s69.2.2 2)) hx hb hE.1 hP 14 1 rfl rfl hg107 dX6_goesOn_107 ?_
                      refine lv_lstore (lv' := [(14, .long ((gA s69.2.2 2) ((((4 * (s34.2.1 - 1)) + s55.1) + 1).toNatClampNeg))), (0, .ref (q 0)), (1, .int a1), (2, .int a2), (3, .int a3), (4, .int a4), (5, .long (s34.1 * 20)), (7, .int s34.2.1), (8, .long s34.1), (10, .int s55.1), (11, .long s69.1), (13, .int s69.2.1)]) hx hb dX6_goesOn_108 hl (by decide) rfl (fun ls hl => ?_)
                      refine lv_iload hx hb dX6_goesOn_110 (lv_at hl 11 rfl) ?_
                      refine lv_iload_n hx hb dX6_goesOn_112 rfl (lv_at hl 4 rfl) ?_
                      refine lv_imul hx hb dX6_goesOn_113 ?_
                      refine lv_i2l (v := ((s69.2.1 * a3).toInt64)) hx hb dX6_goesOn_114 rfl ?_
                      refine lv_lload hx hb dX6_goesOn_115 (lv_at hl 6 rfl) ?_
                      refine lv_lmul hx hb dX6_goesOn_117 ?_
                      refine lv_iload hx hb dX6_goesOn_118 (lv_at hl 11 rfl) ?_
                      refine lv_i2l (v := (s69.2.1.toInt64)) hx hb dX6_goesOn_120 rfl ?_
                      refine lv_lload hx hb dX6_goesOn_121 (lv_at hl 0 rfl) ?_
                      refine lv_lmul hx hb dX6_goesOn_123 ?_
                      refine lv_ladd hx hb dX6_goesOn_124 ?_
                      refine lv_bipush (v := 20) hx hb dX6_goesOn_125 (by decide) ?_
                      refine lv_iload hx hb dX6_goesOn_127 (lv_at hl 11 rfl) ?_
                      refine lv_isub hx hb dX6_goesOn_129 ?_
                      refine lv_i2l (v := ((20 - s69.2.1).toInt64)) hx hb dX6_goesOn_130 rfl ?_
                      refine lv_aload_n hx hb dX6_goesOn_131 rfl (lv_at hl 1 rfl) ?_
                      refine va_get (ci := 6) (v := .ref (q 14)) (C := RX6) (T := TX6) (N := 26) hx hb hts inlX6 hown hE.1 hP 0 rfl rfl 24 (by decide) (hts _ wB97) (fun _ h9 => h9) rfl dX6_goesOn_132 ?_
                      refine lv_iconst (v := 4) hx hb dX6_goesOn_135 (by decide) ?_
                      refine lv_iload hx hb dX6_goesOn_136 (lv_at hl 7 rfl) ?_
                      refine lv_iconst (v := 1) hx hb dX6_goesOn_138 (by decide) ?_
                      refine lv_isub hx hb dX6_goesOn_139 ?_
                      refine lv_imul hx hb dX6_goesOn_140 ?_
                      refine lv_iload hx hb dX6_goesOn_141 (lv_at hl 9 rfl) ?_
                      refine lv_iadd hx hb dX6_goesOn_143 ?_
                      obtain ⟨hg144, hf⟩ := gd_s hf
                      refine va_lald (f := (gA s69.2.2 2)) hx hb hE.1 hP 14 1 rfl rfl hg144 dX6_goesOn_144 ?_
                      refine lv_lmul hx hb dX6_goesOn_145 ?_
                      refine lv_ladd hx hb dX6_goesOn_146 ?_
                      refine lv_lstore (lv' := [(16, .long (((((s69.2.1 * a3).toInt64) * (s34.1 * 20)) + ((s69.2.1.toInt64) * ((gA s69.2.2 2) ((((4 * (s34.2.1 - 1)) + s55.1) + 1).toNatClampNeg)))) + (((20 - s69.2.1).toInt64) * ((gA s69.2.2 2) (((4 * (s34.2.1 - 1)) + s55.1).toNatClampNeg))))), (14, .long ((gA s69.2.2 2) ((((4 * (s34.2.1 - 1)) + s55.1) + 1).toNatClampNeg))), (0, .ref (q 0)), (1, .int a1), (2, .int a2), (3, .int a3), (4, .int a4), (5, .long (s34.1 * 20)), (7, .int s34.2.1), (8, .long s34.1), (10, .int s55.1), (11, .long s69.1), (13, .int s69.2.1)]) hx hb dX6_goesOn_147 hl (by decide) rfl (fun ls hl => ?_)
                      refine lv_iload hx hb dX6_goesOn_149 (lv_at hl 12 rfl) ?_
                      refine lv_if_eq (tgt := 162) hx hb dX6_goesOn_151 (by decide) (fun c151 => ?_) (fun c151 => ?_)
                      · have hf := o_ip c151 hf
                        refine lv_lload hx hb dX6_goesOn_162 (lv_at hl 0 rfl) ?_
                        refine lv_lstore (lv' := [(11, .long (((((s69.2.1 * a3).toInt64) * (s34.1 * 20)) + ((s69.2.1.toInt64) * ((gA s69.2.2 2) ((((4 * (s34.2.1 - 1)) + s55.1) + 1).toNatClampNeg)))) + (((20 - s69.2.1).toInt64) * ((gA s69.2.2 2) (((4 * (s34.2.1 - 1)) + s55.1).toNatClampNeg))))), (16, .long (((((s69.2.1 * a3).toInt64) * (s34.1 * 20)) + ((s69.2.1.toInt64) * ((gA s69.2.2 2) ((((4 * (s34.2.1 - 1)) + s55.1) + 1).toNatClampNeg)))) + (((20 - s69.2.1).toInt64) * ((gA s69.2.2 2) (((4 * (s34.2.1 - 1)) + s55.1).toNatClampNeg))))), (14, .long ((gA s69.2.2 2) ((((4 * (s34.2.1 - 1)) + s55.1) + 1).toNatClampNeg))), (0, .ref (q 0)), (1, .int a1), (2, .int a2), (3, .int a3), (4, .int a4), (5, .long (s34.1 * 20)), (7, .int s34.2.1), (8, .long s34.1), (10, .int s55.1), (13, .int s69.2.1)]) hx hb dX6_goesOn_164 hl (by decide) rfl (fun ls hl => ?_)
                        refine lv_aload_n hx hb dX6_goesOn_166 rfl (lv_at hl 3 rfl) ?_
                        refine lv_iload hx hb dX6_goesOn_167 (lv_at hl 11 rfl) ?_
                        refine lv_iload_n hx hb dX6_goesOn_169 rfl (lv_at hl 4 rfl) ?_
                        refine lv_icmp_ne (tgt := 178) hx hb dX6_goesOn_170 (by decide) (fun c170 => ?_) (fun c170 => ?_)
                        · have hf := o_in c170 hf
                          refine lv_aload_n hx hb dX6_goesOn_178 rfl (lv_at hl 3 rfl) ?_
                          refine va_get (ci := 6) (v := .int (gI s69.2.2 10)) (C := RX6) (T := TX6) (N := 26) hx hb hts inlX6 hown hE.1 hP 0 rfl rfl 25 (by decide) (hts _ wB775) (fun _ h9 => h9) rfl dX6_goesOn_179 ?_
                          refine va_put (ci := 6) (v := .int (gI s69.2.2 10)) (ty := .int) (C := RX6) (T := TX6) (N := 26) hx hb hts inlX6 tyX6 tyX6_ok nmX6 hown hE.1 hP hD hS 0 rfl rfl 25 (by decide) (hts _ wB775) (fun _ h9 => h9) rfl (by decide +kernel) rfl rfl (Nat.le_of_ble_eq_true rfl) dX6_goesOn_182 (fun H locs hP hD hS => ?_)
                          have hP : va_P D vwCl (WM q cy (sI s69.2.2 10 (gI s69.2.2 10)) ++ rest) H := hP
                          have hD : va_D A (WM q cy (sI s69.2.2 10 (gI s69.2.2 10)) ++ rest) := hD
                          refine lv_iinc (v := (s69.2.1 + 1)) (lv' := [(13, .int (s69.2.1 + 1)), (11, .long (((((s69.2.1 * a3).toInt64) * (s34.1 * 20)) + ((s69.2.1.toInt64) * ((gA s69.2.2 2) ((((4 * (s34.2.1 - 1)) + s55.1) + 1).toNatClampNeg)))) + (((20 - s69.2.1).toInt64) * ((gA s69.2.2 2) (((4 * (s34.2.1 - 1)) + s55.1).toNatClampNeg))))), (16, .long (((((s69.2.1 * a3).toInt64) * (s34.1 * 20)) + ((s69.2.1.toInt64) * ((gA s69.2.2 2) ((((4 * (s34.2.1 - 1)) + s55.1) + 1).toNatClampNeg)))) + (((20 - s69.2.1).toInt64) * ((gA s69.2.2 2) (((4 * (s34.2.1 - 1)) + s55.1).toNatClampNeg))))), (14, .long ((gA s69.2.2 2) ((((4 * (s34.2.1 - 1)) + s55.1) + 1).toNatClampNeg))), (0, .ref (q 0)), (1, .int a1), (2, .int a2), (3, .int a3), (4, .int a4), (5, .long (s34.1 * 20)), (7, .int s34.2.1), (8, .long s34.1), (10, .int s55.1)]) hx hb dX6_goesOn_185 hl (k := 12) rfl (by rfl) (by decide) rfl (fun ls hl => ?_)
                          refine lv_goto (tgt := 69) hx hb dX6_goesOn_188 (by decide) ?_
                          obtain rfl := o_ret hf
                          exact ih69 _ _ (lpK_r h69z) _ _ _ hP hD hS (lv_sub hl [4, 5, 6, 7, 8, 9, 10, 11, 12, 1, 0] rfl) K69_0
                        · have hf := o_ip c170 hf
                          refine lv_iload hx hb dX6_goesOn_173 (lv_at hl 12 rfl) ?_
                          refine lv_goto (tgt := 182) hx hb dX6_goesOn_175 (by decide) ?_
                          refine va_put (ci := 6) (v := .int s69.2.1) (ty := .int) (C := RX6) (T := TX6) (N := 26) hx hb hts inlX6 tyX6 tyX6_ok nmX6 hown hE.1 hP hD hS 0 rfl rfl 25 (by decide) (hts _ wB775) (fun _ h9 => h9) rfl (by decide +kernel) rfl rfl (Nat.le_of_ble_eq_true rfl) dX6_goesOn_182 (fun H locs hP hD hS => ?_)
                          have hP : va_P D vwCl (WM q cy (sI s69.2.2 10 s69.2.1) ++ rest) H := hP
                          have hD : va_D A (WM q cy (sI s69.2.2 10 s69.2.1) ++ rest) := hD
                          refine lv_iinc (v := (s69.2.1 + 1)) (lv' := [(13, .int (s69.2.1 + 1)), (11, .long (((((s69.2.1 * a3).toInt64) * (s34.1 * 20)) + ((s69.2.1.toInt64) * ((gA s69.2.2 2) ((((4 * (s34.2.1 - 1)) + s55.1) + 1).toNatClampNeg)))) + (((20 - s69.2.1).toInt64) * ((gA s69.2.2 2) (((4 * (s34.2.1 - 1)) + s55.1).toNatClampNeg))))), (16, .long (((((s69.2.1 * a3).toInt64) * (s34.1 * 20)) + ((s69.2.1.toInt64) * ((gA s69.2.2 2) ((((4 * (s34.2.1 - 1)) + s55.1) + 1).toNatClampNeg)))) + (((20 - s69.2.1).toInt64) * ((gA s69.2.2 2) (((4 * (s34.2.1 - 1)) + s55.1).toNatClampNeg))))), (14, .long ((gA s69.2.2 2) ((((4 * (s34.2.1 - 1)) + s55.1) + 1).toNatClampNeg))), (0, .ref (q 0)), (1, .int a1), (2, .int a2), (3, .int a3), (4, .int a4), (5, .long (s34.1 * 20)), (7, .int s34.2.1), (8, .long s34.1), (10, .int s55.1)]) hx hb dX6_goesOn_185 hl (k := 12) rfl (by rfl) (by decide) rfl (fun ls hl => ?_)
                          refine lv_goto (tgt := 69) hx hb dX6_goesOn_188 (by decide) ?_
                          obtain rfl := o_ret hf
                          exact ih69 _ _ (lpK_r h69z) _ _ _ hP hD hS (lv_sub hl [4, 5, 6, 7, 8, 9, 10, 11, 12, 1, 0] rfl) K69_0
                      · have hf := o_in c151 hf
                        refine lv_lload hx hb dX6_goesOn_154 (lv_at hl 0 rfl) ?_
                        refine lv_lload hx hb dX6_goesOn_156 (lv_at hl 11 rfl) ?_
                        refine W.lcmp hx hb dX6_goesOn_158 ?_
                        refine lv_if_le (tgt := 185) hx hb dX6_goesOn_159 (by decide) (fun c159 => ?_) (fun c159 => ?_)
                        · have hf := o_ip c159 hf
                          refine lv_iinc (v := (s69.2.1 + 1)) (lv' := [(13, .int (s69.2.1 + 1)), (16, .long (((((s69.2.1 * a3).toInt64) * (s34.1 * 20)) + ((s69.2.1.toInt64) * ((gA s69.2.2 2) ((((4 * (s34.2.1 - 1)) + s55.1) + 1).toNatClampNeg)))) + (((20 - s69.2.1).toInt64) * ((gA s69.2.2 2) (((4 * (s34.2.1 - 1)) + s55.1).toNatClampNeg))))), (14, .long ((gA s69.2.2 2) ((((4 * (s34.2.1 - 1)) + s55.1) + 1).toNatClampNeg))), (0, .ref (q 0)), (1, .int a1), (2, .int a2), (3, .int a3), (4, .int a4), (5, .long (s34.1 * 20)), (7, .int s34.2.1), (8, .long s34.1), (10, .int s55.1), (11, .long s69.1)]) hx hb dX6_goesOn_185 hl (k := 12) rfl (by rfl) (by decide) rfl (fun ls hl => ?_)
                          refine lv_goto (tgt := 69) hx hb dX6_goesOn_188 (by decide) ?_
                          obtain rfl := o_ret hf
                          exact ih69 _ _ (lpK_r h69z) _ _ _ hP hD hS (lv_sub hl [3, 4, 5, 6, 7, 8, 9, 10, 11, 12, 0] rfl) K69_0
                        · have hf := o_in c159 hf
                          refine lv_lload hx hb dX6_goesOn_162 (lv_at hl 0 rfl) ?_
                          refine lv_lstore (lv' := [(11, .long (((((s69.2.1 * a3).toInt64) * (s34.1 * 20)) + ((s69.2.1.toInt64) * ((gA s69.2.2 2) ((((4 * (s34.2.1 - 1)) + s55.1) + 1).toNatClampNeg)))) + (((20 - s69.2.1).toInt64) * ((gA s69.2.2 2) (((4 * (s34.2.1 - 1)) + s55.1).toNatClampNeg))))), (16, .long (((((s69.2.1 * a3).toInt64) * (s34.1 * 20)) + ((s69.2.1.toInt64) * ((gA s69.2.2 2) ((((4 * (s34.2.1 - 1)) + s55.1) + 1).toNatClampNeg)))) + (((20 - s69.2.1).toInt64) * ((gA s69.2.2 2) (((4 * (s34.2.1 - 1)) + s55.1).toNatClampNeg))))), (14, .long ((gA s69.2.2 2) ((((4 * (s34.2.1 - 1)) + s55.1) + 1).toNatClampNeg))), (0, .ref (q 0)), (1, .int a1), (2, .int a2), (3, .int a3), (4, .int a4), (5, .long (s34.1 * 20)), (7, .int s34.2.1), (8, .long s34.1), (10, .int s55.1), (13, .int s69.2.1)]) hx hb dX6_goesOn_164 hl (by decide) rfl (fun ls hl => ?_)
                          refine lv_aload_n hx hb dX6_goesOn_166 rfl (lv_at hl 3 rfl) ?_
                          refine lv_iload hx hb dX6_goesOn_167 (lv_at hl 11 rfl) ?_
                          refine lv_iload_n hx hb dX6_goesOn_169 rfl (lv_at hl 4 rfl) ?_
                          refine lv_icmp_ne (tgt := 178) hx hb dX6_goesOn_170 (by decide) (fun c170 => ?_) (fun c170 => ?_)
                          · have hf := o_in c170 hf
                            refine lv_aload_n hx hb dX6_goesOn_178 rfl (lv_at hl 3 rfl) ?_
                            refine va_get (ci := 6) (v := .int (gI s69.2.2 10)) (C := RX6) (T := TX6) (N := 26) hx hb hts inlX6 hown hE.1 hP 0 rfl rfl 25 (by decide) (hts _ wB775) (fun _ h9 => h9) rfl dX6_goesOn_179 ?_
                            refine va_put (ci := 6) (v := .int (gI s69.2.2 10)) (ty := .int) (C := RX6) (T := TX6) (N := 26) hx hb hts inlX6 tyX6 tyX6_ok nmX6 hown hE.1 hP hD hS 0 rfl rfl 25 (by decide) (hts _ wB775) (fun _ h9 => h9) rfl (by decide +kernel) rfl rfl (Nat.le_of_ble_eq_true rfl) dX6_goesOn_182 (fun H locs hP hD hS => ?_)
                            have hP : va_P D vwCl (WM q cy (sI s69.2.2 10 (gI s69.2.2 10)) ++ rest) H := hP
                            have hD : va_D A (WM q cy (sI s69.2.2 10 (gI s69.2.2 10)) ++ rest) := hD
                            refine lv_iinc (v := (s69.2.1 + 1)) (lv' := [(13, .int (s69.2.1 + 1)), (11, .long (((((s69.2.1 * a3).toInt64) * (s34.1 * 20)) + ((s69.2.1.toInt64) * ((gA s69.2.2 2) ((((4 * (s34.2.1 - 1)) + s55.1) + 1).toNatClampNeg)))) + (((20 - s69.2.1).toInt64) * ((gA s69.2.2 2) (((4 * (s34.2.1 - 1)) + s55.1).toNatClampNeg))))), (16, .long (((((s69.2.1 * a3).toInt64) * (s34.1 * 20)) + ((s69.2.1.toInt64) * ((gA s69.2.2 2) ((((4 * (s34.2.1 - 1)) + s55.1) + 1).toNatClampNeg)))) + (((20 - s69.2.1).toInt64) * ((gA s69.2.2 2) (((4 * (s34.2.1 - 1)) + s55.1).toNatClampNeg))))), (14, .long ((gA s69.2.2 2) ((((4 * (s34.2.1 - 1)) + s55.1) + 1).toNatClampNeg))), (0, .ref (q 0)), (1, .int a1), (2, .int a2), (3, .int a3), (4, .int a4), (5, .long (s34.1 * 20)), (7, .int s34.2.1), (8, .long s34.1), (10, .int s55.1)]) hx hb dX6_goesOn_185 hl (k := 12) rfl (by rfl) (by decide) rfl (fun ls hl => ?_)
                            refine lv_goto (tgt := 69) hx hb dX6_goesOn_188 (by decide) ?_
                            obtain rfl := o_ret hf
                            exact ih69 _ _ (lpK_r h69z) _ _ _ hP hD hS (lv_sub hl [4, 5, 6, 7, 8, 9, 10, 11, 12, 1, 0] rfl) K69_0
                          · have hf := o_ip c170 hf
                            refine lv_iload hx hb dX6_goesOn_173 (lv_at hl 12 rfl) ?_
                            refine lv_goto (tgt := 182) hx hb dX6_goesOn_175 (by decide) ?_
                            refine va_put (ci := 6) (v := .int s69.2.1) (ty := .int) (C := RX6) (T := TX6) (N := 26) hx hb hts inlX6 tyX6 tyX6_ok nmX6 hown hE.1 hP hD hS 0 rfl rfl 25 (by decide) (hts _ wB775) (fun _ h9 => h9) rfl (by decide +kernel) rfl rfl (Nat.le_of_ble_eq_true rfl) dX6_goesOn_182 (fun H locs hP hD hS => ?_)
                            have hP : va_P D vwCl (WM q cy (sI s69.2.2 10 s69.2.1) ++ rest) H := hP
                            have hD : va_D A (WM q cy (sI s69.2.2 10 s69.2.1) ++ rest) := hD
                            refine lv_iinc (v := (s69.2.1 + 1)) (lv' := [(13, .int (s69.2.1 + 1)), (11, .long (((((s69.2.1 * a3).toInt64) * (s34.1 * 20)) + ((s69.2.1.toInt64) * ((gA s69.2.2 2) ((((4 * (s34.2.1 - 1)) + s55.1) + 1).toNatClampNeg)))) + (((20 - s69.2.1).toInt64) * ((gA s69.2.2 2) (((4 * (s34.2.1 - 1)) + s55.1).toNatClampNeg))))), (16, .long (((((s69.2.1 * a3).toInt64) * (s34.1 * 20)) + ((s69.2.1.toInt64) * ((gA s69.2.2 2) ((((4 * (s34.2.1 - 1)) + s55.1) + 1).toNatClampNeg)))) + (((20 - s69.2.1).toInt64) * ((gA s69.2.2 2) (((4 * (s34.2.1 - 1)) + s55.1).toNatClampNeg))))), (14, .long ((gA s69.2.2 2) ((((4 * (s34.2.1 - 1)) + s55.1) + 1).toNatClampNeg))), (0, .ref (q 0)), (1, .int a1), (2, .int a2), (3, .int a3), (4, .int a4), (5, .long (s34.1 * 20)), (7, .int s34.2.1), (8, .long s34.1), (10, .int s55.1)]) hx hb dX6_goesOn_185 hl (k := 12) rfl (by rfl) (by decide) rfl (fun ls hl => ?_)
                            refine lv_goto (tgt := 69) hx hb dX6_goesOn_188 (by decide) ?_
                            obtain rfl := o_ret hf
                            exact ih69 _ _ (lpK_r h69z) _ _ _ hP hD hS (lv_sub hl [4, 5, 6, 7, 8, 9, 10, 11, 12, 1, 0] rfl) K69_0
                    · have hf := o_ip c79 hf
                      refine lv_iload hx hb dX6_goesOn_82 (lv_at hl 4 rfl) ?_
                      refine lv_ineg hx hb dX6_goesOn_84 ?_
                      refine lv_i2l (v := ((-a4).toInt64)) hx hb dX6_goesOn_85 rfl ?_
                      refine lv_lload hx hb dX6_goesOn_86 (lv_at hl 7 rfl) ?_
                      refine lv_lmul hx hb dX6_goesOn_88 ?_
                      refine lv_goto (tgt := 108) hx hb dX6_goesOn_89 (by decide) ?_
                      refine lv_lstore (lv' := [(14, .long (((-a4).toInt64) * s34.1)), (0, .ref (q 0)), (1, .int a1), (2, .int a2), (3, .int a3), (4, .int a4), (5, .long (s34.1 * 20)), (7, .int s34.2.1), (8, .long s34.1), (10, .int s55.1), (11, .long s69.1), (13, .int s69.2.1)]) hx hb dX6_goesOn_108 hl (by decide) rfl (fun ls hl => ?_)
                      refine lv_iload hx hb dX6_goesOn_110 (lv_at hl 11 rfl) ?_
                      refine lv_iload_n hx hb dX6_goesOn_112 rfl (lv_at hl 4 rfl) ?_
                      refine lv_imul hx hb dX6_goesOn_113 ?_
                      refine lv_i2l (v := ((s69.2.1 * a3).toInt64)) hx hb dX6_goesOn_114 rfl ?_
                      refine lv_lload hx hb dX6_goesOn_115 (lv_at hl 6 rfl) ?_
                      refine lv_lmul hx hb dX6_goesOn_117 ?_
                      refine lv_iload hx hb dX6_goesOn_118 (lv_at hl 11 rfl) ?_
                      refine lv_i2l (v := (s69.2.1.toInt64)) hx hb dX6_goesOn_120 rfl ?_
                      refine lv_lload hx hb dX6_goesOn_121 (lv_at hl 0 rfl) ?_
                      refine lv_lmul hx hb dX6_goesOn_123 ?_
                      refine lv_ladd hx hb dX6_goesOn_124 ?_
                      refine lv_bipush (v := 20) hx hb dX6_goesOn_125 (by decide) ?_
                      refine lv_iload hx hb dX6_goesOn_127 (lv_at hl 11 rfl) ?_
                      refine lv_isub hx hb dX6_goesOn_129 ?_
                      refine lv_i2l (v := ((20 - s69.2.1).toInt64)) hx hb dX6_goesOn_130 rfl ?_
                      refine lv_aload_n hx hb dX6_goesOn_131 rfl (lv_at hl 1 rfl) ?_
                      refine va_get (ci := 6) (v := .ref (q 14)) (C := RX6) (T := TX6) (N := 26) hx hb hts inlX6 hown hE.1 hP 0 rfl rfl 24 (by decide) (hts _ wB97) (fun _ h9 => h9) rfl dX6_goesOn_132 ?_
                      refine lv_iconst (v := 4) hx hb dX6_goesOn_135 (by decide) ?_
                      refine lv_iload hx hb dX6_goesOn_136 (lv_at hl 7 rfl) ?_
                      refine lv_iconst (v := 1) hx hb dX6_goesOn_138 (by decide) ?_
                      refine lv_isub hx hb dX6_goesOn_139 ?_
                      refine lv_imul hx hb dX6_goesOn_140 ?_
                      refine lv_iload hx hb dX6_goesOn_141 (lv_at hl 9 rfl) ?_
                      refine lv_iadd hx hb dX6_goesOn_143 ?_
                      obtain ⟨hg144, hf⟩ := gd_s hf
                      refine va_lald (f := (gA s69.2.2 2)) hx hb hE.1 hP 14 1 rfl rfl hg144 dX6_goesOn_144 ?_
                      refine lv_lmul hx hb dX6_goesOn_145 ?_
                      refine lv_ladd hx hb dX6_goesOn_146 ?_
                      refine lv_lstore (lv' := [(16, .long (((((s69.2.1 * a3).toInt64) * (s34.1 * 20)) + ((s69.2.1.toInt64) * (((-a4).toInt64) * s34.1))) + (((20 - s69.2.1).toInt64) * ((gA s69.2.2 2) (((4 * (s34.2.1 - 1)) + s55.1).toNatClampNeg))))), (14, .long (((-a4).toInt64) * s34.1)), (0, .ref (q 0)), (1, .int a1), (2, .int a2), (3, .int a3), (4, .int a4), (5, .long (s34.1 * 20)), (7, .int s34.2.1), (8, .long s34.1), (10, .int s55.1), (11, .long s69.1), (13, .int s69.2.1)]) hx hb dX6_goesOn_147 hl (by decide) rfl (fun ls hl => ?_)
                      refine lv_iload hx hb dX6_goesOn_149 (lv_at hl 12 rfl) ?_
                      refine lv_if_eq (tgt := 162) hx hb dX6_goesOn_151 (by decide) (fun c151 => ?_) (fun c151 => ?_)
                      · have hf := o_ip c151 hf
                        refine lv_lload hx hb dX6_goesOn_162 (lv_at hl 0 rfl) ?_
                        refine lv_lstore (lv' := [(11, .long (((((s69.2.1 * a3).toInt64) * (s34.1 * 20)) + ((s69.2.1.toInt64) * (((-a4).toInt64) * s34.1))) + (((20 - s69.2.1).toInt64) * ((gA s69.2.2 2) (((4 * (s34.2.1 - 1)) + s55.1).toNatClampNeg))))), (16, .long (((((s69.2.1 * a3).toInt64) * (s34.1 * 20)) + ((s69.2.1.toInt64) * (((-a4).toInt64) * s34.1))) + (((20 - s69.2.1).toInt64) * ((gA s69.2.2 2) (((4 * (s34.2.1 - 1)) + s55.1).toNatClampNeg))))), (14, .long (((-a4).toInt64) * s34.1)), (0, .ref (q 0)), (1, .int a1), (2, .int a2), (3, .int a3), (4, .int a4), (5, .long (s34.1 * 20)), (7, .int s34.2.1), (8, .long s34.1), (10, .int s55.1), (13, .int s69.2.1)]) hx hb dX6_goesOn_164 hl (by decide) rfl (fun ls hl => ?_)
                        refine lv_aload_n hx hb dX6_goesOn_166 rfl (lv_at hl 3 rfl) ?_
                        refine lv_iload hx hb dX6_goesOn_167 (lv_at hl 11 rfl) ?_
                        refine lv_iload_n hx hb dX6_goesOn_169 rfl (lv_at hl 4 rfl) ?_
                        refine lv_icmp_ne (tgt := 178) hx hb dX6_goesOn_170 (by decide) (fun c170 => ?_) (fun c170 => ?_)
                        · have hf := o_in c170 hf
                          refine lv_aload_n hx hb dX6_goesOn_178 rfl (lv_at hl 3 rfl) ?_
                          refine va_get (ci := 6) (v := .int (gI s69.2.2 10)) (C := RX6) (T := TX6) (N := 26) hx hb hts inlX6 hown hE.1 hP 0 rfl rfl 25 (by decide) (hts _ wB775) (fun _ h9 => h9) rfl dX6_goesOn_179 ?_
                          refine va_put (ci := 6) (v := .int (gI s69.2.2 10)) (ty := .int) (C := RX6) (T := TX6) (N := 26) hx hb hts inlX6 tyX6 tyX6_ok nmX6 hown hE.1 hP hD hS 0 rfl rfl 25 (by decide) (hts _ wB775) (fun _ h9 => h9) rfl (by decide +kernel) rfl rfl (Nat.le_of_ble_eq_true rfl) dX6_goesOn_182 (fun H locs hP hD hS => ?_)
                          have hP : va_P D vwCl (WM q cy (sI s69.2.2 10 (gI s69.2.2 10)) ++ rest) H := hP
                          have hD : va_D A (WM q cy (sI s69.2.2 10 (gI s69.2.2 10)) ++ rest) := hD
                          refine lv_iinc (v := (s69.2.1 + 1)) (lv' := [(13, .int (s69.2.1 + 1)), (11, .long (((((s69.2.1 * a3).toInt64) * (s34.1 * 20)) + ((s69.2.1.toInt64) * (((-a4).toInt64) * s34.1))) + (((20 - s69.2.1).toInt64) * ((gA s69.2.2 2) (((4 * (s34.2.1 - 1)) + s55.1).toNatClampNeg))))), (16, .long (((((s69.2.1 * a3).toInt64) * (s34.1 * 20)) + ((s69.2.1.toInt64) * (((-a4).toInt64) * s34.1))) + (((20 - s69.2.1).toInt64) * ((gA s69.2.2 2) (((4 * (s34.2.1 - 1)) + s55.1).toNatClampNeg))))), (14, .long (((-a4).toInt64) * s34.1)), (0, .ref (q 0)), (1, .int a1), (2, .int a2), (3, .int a3), (4, .int a4), (5, .long (s34.1 * 20)), (7, .int s34.2.1), (8, .long s34.1), (10, .int s55.1)]) hx hb dX6_goesOn_185 hl (k := 12) rfl (by rfl) (by decide) rfl (fun ls hl => ?_)
                          refine lv_goto (tgt := 69) hx hb dX6_goesOn_188 (by decide) ?_
                          obtain rfl := o_ret hf
                          exact ih69 _ _ (lpK_r h69z) _ _ _ hP hD hS (lv_sub hl [4, 5, 6, 7, 8, 9, 10, 11, 12, 1, 0] rfl) K69_0
                        · have hf := o_ip c170 hf
                          refine lv_iload hx hb dX6_goesOn_173 (lv_at hl 12 rfl) ?_
                          refine lv_goto (tgt := 182) hx hb dX6_goesOn_175 (by decide) ?_
                          refine va_put (ci := 6) (v := .int s69.2.1) (ty := .int) (C := RX6) (T := TX6) (N := 26) hx hb hts inlX6 tyX6 tyX6_ok nmX6 hown hE.1 hP hD hS 0 rfl rfl 25 (by decide) (hts _ wB775) (fun _ h9 => h9) rfl (by decide +kernel) rfl rfl (Nat.le_of_ble_eq_true rfl) dX6_goesOn_182 (fun H locs hP hD hS => ?_)
                          have hP : va_P D vwCl (WM q cy (sI s69.2.2 10 s69.2.1) ++ rest) H := hP
                          have hD : va_D A (WM q cy (sI s69.2.2 10 s69.2.1) ++ rest) := hD
                          refine lv_iinc (v := (s69.2.1 + 1)) (lv' := [(13, .int (s69.2.1 + 1)), (11, .long (((((s69.2.1 * a3).toInt64) * (s34.1 * 20)) + ((s69.2.1.toInt64) * (((-a4).toInt64) * s34.1))) + (((20 - s69.2.1).toInt64) * ((gA s69.2.2 2) (((4 * (s34.2.1 - 1)) + s55.1).toNatClampNeg))))), (16, .long (((((s69.2.1 * a3).toInt64) * (s34.1 * 20)) + ((s69.2.1.toInt64) * (((-a4).toInt64) * s34.1))) + (((20 - s69.2.1).toInt64) * ((gA s69.2.2 2) (((4 * (s34.2.1 - 1)) + s55.1).toNatClampNeg))))), (14, .long (((-a4).toInt64) * s34.1)), (0, .ref (q 0)), (1, .int a1), (2, .int a2), (3, .int a3), (4, .int a4), (5, .long (s34.1 * 20)), (7, .int s34.2.1), (8, .long s34.1), (10, .int s55.1)]) hx hb dX6_goesOn_185 hl (k := 12) rfl (by rfl) (by decide) rfl (fun ls hl => ?_)
                          refine lv_goto (tgt := 69) hx hb dX6_goesOn_188 (by decide) ?_
                          obtain rfl := o_ret hf
                          exact ih69 _ _ (lpK_r h69z) _ _ _ hP hD hS (lv_sub hl [4, 5, 6, 7, 8, 9, 10, 11, 12, 1, 0] rfl) K69_0
                      · have hf := o_in c151 hf
                        refine lv_lload hx hb dX6_goesOn_154 (lv_at hl 0 rfl) ?_
                        refine lv_lload hx hb dX6_goesOn_156 (lv_at hl 11 rfl) ?_
                        refine W.lcmp hx hb dX6_goesOn_158 ?_
                        refine lv_if_le (tgt := 185) hx hb dX6_goesOn_159 (by decide) (fun c159 => ?_) (fun c159 => ?_)
                        · have hf := o_ip c159 hf
                          refine lv_iinc (v := (s69.2.1 + 1)) (lv' := [(13, .int (s69.2.1 + 1)), (16, .long (((((s69.2.1 * a3).toInt64) * (s34.1 * 20)) + ((s69.2.1.toInt64) * (((-a4).toInt64) * s34.1))) + (((20 - s69.2.1).toInt64) * ((gA s69.2.2 2) (((4 * (s34.2.1 - 1)) + s55.1).toNatClampNeg))))), (14, .long (((-a4).toInt64) * s34.1)), (0, .ref (q 0)), (1, .int a1), (2, .int a2), (3, .int a3), (4, .int a4), (5, .long (s34.1 * 20)), (7, .int s34.2.1), (8, .long s34.1), (10, .int s55.1), (11, .long s69.1)]) hx hb dX6_goesOn_185 hl (k := 12) rfl (by rfl) (by decide) rfl (fun ls hl => ?_)
                          refine lv_goto (tgt := 69) hx hb dX6_goesOn_188 (by decide) ?_
                          obtain rfl := o_ret hf
                          exact ih69 _ _ (lpK_r h69z) _ _ _ hP hD hS (lv_sub hl [3, 4, 5, 6, 7, 8, 9, 10, 11, 12, 0] rfl) K69_0
                        · have hf := o_in c159 hf
                          refine lv_lload hx hb dX6_goesOn_162 (lv_at hl 0 rfl) ?_
                          refine lv_lstore (lv' := [(11, .long (((((s69.2.1 * a3).toInt64) * (s34.1 * 20)) + ((s69.2.1.toInt64) * (((-a4).toInt64) * s34.1))) + (((20 - s69.2.1).toInt64) * ((gA s69.2.2 2) (((4 * (s34.2.1 - 1)) + s55.1).toNatClampNeg))))), (16, .long (((((s69.2.1 * a3).toInt64) * (s34.1 * 20)) + ((s69.2.1.toInt64) * (((-a4).toInt64) * s34.1))) + (((20 - s69.2.1).toInt64) * ((gA s69.2.2 2) (((4 * (s34.2.1 - 1)) + s55.1).toNatClampNeg))))), (14, .long (((-a4).toInt64) * s34.1)), (0, .ref (q 0)), (1, .int a1), (2, .int a2), (3, .int a3), (4, .int a4), (5, .long (s34.1 * 20)), (7, .int s34.2.1), (8, .long s34.1), (10, .int s55.1), (13, .int s69.2.1)]) hx hb dX6_goesOn_164 hl (by decide) rfl (fun ls hl => ?_)
                          refine lv_aload_n hx hb dX6_goesOn_166 rfl (lv_at hl 3 rfl) ?_
                          refine lv_iload hx hb dX6_goesOn_167 (lv_at hl 11 rfl) ?_
                          refine lv_iload_n hx hb dX6_goesOn_169 rfl (lv_at hl 4 rfl) ?_
                          refine lv_icmp_ne (tgt := 178) hx hb dX6_goesOn_170 (by decide) (fun c170 => ?_) (fun c170 => ?_)
                          · have hf := o_in c170 hf
                            refine lv_aload_n hx hb dX6_goesOn_178 rfl (lv_at hl 3 rfl) ?_
                            refine va_get (ci := 6) (v := .int (gI s69.2.2 10)) (C := RX6) (T := TX6) (N := 26) hx hb hts inlX6 hown hE.1 hP 0 rfl rfl 25 (by decide) (hts _ wB775) (fun _ h9 => h9) rfl dX6_goesOn_179 ?_
                            refine va_put (ci := 6) (v := .int (gI s69.2.2 10)) (ty := .int) (C := RX6) (T := TX6) (N := 26) hx hb hts inlX6 tyX6 tyX6_ok nmX6 hown hE.1 hP hD hS 0 rfl rfl 25 (by decide) (hts _ wB775) (fun _ h9 => h9) rfl (by decide +kernel) rfl rfl (Nat.le_of_ble_eq_true rfl) dX6_goesOn_182 (fun H locs hP hD hS => ?_)
                            have hP : va_P D vwCl (WM q cy (sI s69.2.2 10 (gI s69.2.2 10)) ++ rest) H := hP
                            have hD : va_D A (WM q cy (sI s69.2.2 10 (gI s69.2.2 10)) ++ rest) := hD
                            refine lv_iinc (v := (s69.2.1 + 1)) (lv' := [(13, .int (s69.2.1 + 1)), (11, .long (((((s69.2.1 * a3).toInt64) * (s34.1 * 20)) + ((s69.2.1.toInt64) * (((-a4).toInt64) * s34.1))) + (((20 - s69.2.1).toInt64) * ((gA s69.2.2 2) (((4 * (s34.2.1 - 1)) + s55.1).toNatClampNeg))))), (16, .long (((((s69.2.1 * a3).toInt64) * (s34.1 * 20)) + ((s69.2.1.toInt64) * (((-a4).toInt64) * s34.1))) + (((20 - s69.2.1).toInt64) * ((gA s69.2.2 2) (((4 * (s34.2.1 - 1)) + s55.1).toNatClampNeg))))), (14, .long (((-a4).toInt64) * s34.1)), (0, .ref (q 0)), (1, .int a1), (2, .int a2), (3, .int a3), (4, .int a4), (5, .long (s34.1 * 20)), (7, .int s34.2.1), (8, .long s34.1), (10, .int s55.1)]) hx hb dX6_goesOn_185 hl (k := 12) rfl (by rfl) (by decide) rfl (fun ls hl => ?_)
                            refine lv_goto (tgt := 69) hx hb dX6_goesOn_188 (by decide) ?_
                            obtain rfl := o_ret hf
                            exact ih69 _ _ (lpK_r h69z) _ _ _ hP hD hS (lv_sub hl [4, 5, 6, 7, 8, 9, 10, 11, 12, 1, 0] rfl) K69_0
                          · have hf := o_ip c170 hf
                            refine lv_iload hx hb dX6_goesOn_173 (lv_at hl 12 rfl) ?_
                            refine lv_goto (tgt := 182) hx hb dX6_goesOn_175 (by decide) ?_
                            refine va_put (ci := 6) (v := .int s69.2.1) (ty := .int) (C := RX6) (T := TX6) (N := 26) hx hb hts inlX6 tyX6 tyX6_ok nmX6 hown hE.1 hP hD hS 0 rfl rfl 25 (by decide) (hts _ wB775) (fun _ h9 => h9) rfl (by decide +kernel) rfl rfl (Nat.le_of_ble_eq_true rfl) dX6_goesOn_182 (fun H locs hP hD hS => ?_)
                            have hP : va_P D vwCl (WM q cy (sI s69.2.2 10 s69.2.1) ++ rest) H := hP
                            have hD : va_D A (WM q cy (sI s69.2.2 10 s69.2.1) ++ rest) := hD
                            refine lv_iinc (v := (s69.2.1 + 1)) (lv' := [(13, .int (s69.2.1 + 1)), (11, .long (((((s69.2.1 * a3).toInt64) * (s34.1 * 20)) + ((s69.2.1.toInt64) * (((-a4).toInt64) * s34.1))) + (((20 - s69.2.1).toInt64) * ((gA s69.2.2 2) (((4 * (s34.2.1 - 1)) + s55.1).toNatClampNeg))))), (16, .long (((((s69.2.1 * a3).toInt64) * (s34.1 * 20)) + ((s69.2.1.toInt64) * (((-a4).toInt64) * s34.1))) + (((20 - s69.2.1).toInt64) * ((gA s69.2.2 2) (((4 * (s34.2.1 - 1)) + s55.1).toNatClampNeg))))), (14, .long (((-a4).toInt64) * s34.1)), (0, .ref (q 0)), (1, .int a1), (2, .int a2), (3, .int a3), (4, .int a4), (5, .long (s34.1 * 20)), (7, .int s34.2.1), (8, .long s34.1), (10, .int s55.1)]) hx hb dX6_goesOn_185 hl (k := 12) rfl (by rfl) (by decide) rfl (fun ls hl => ?_)
                            refine lv_goto (tgt := 69) hx hb dX6_goesOn_188 (by decide) ?_
                            obtain rfl := o_ret hf
                            exact ih69 _ _ (lpK_r h69z) _ _ _ hP hD hS (lv_sub hl [4, 5, 6, 7, 8, 9, 10, 11, 12, 1, 0] rfl) K69_0
              obtain ⟨e69, h69q, hf⟩ := o_bs hf
              obtain ⟨n69v, h69q⟩ := lpF_ex h69q
              refine L69 n69v _ e69 h69q _ _ _ hP hD hS (lv_sub hl [2, 3, 4, 5, 6, 7, 8, 9, 10, 1, 0] rfl) ?_
              intro H locs ls hP hD hS hl
              refine lv_aload_n hx hb dX6_goesOn_191 rfl (lv_at hl 0 rfl) ?_
              refine va_get (ci := 6) (v := .ref (q 14)) (C := RX6) (T := TX6) (N := 26) hx hb hts inlX6 hown hE.1 hP 0 rfl rfl 24 (by decide) (hts _ wB97) (fun _ h9 => h9) rfl dX6_goesOn_192 ?_
              refine lv_iconst (v := 4) hx hb dX6_goesOn_195 (by decide) ?_
              refine lv_iload hx hb dX6_goesOn_196 (lv_at hl 6 rfl) ?_
              refine lv_imul hx hb dX6_goesOn_198 ?_
              refine lv_iload hx hb dX6_goesOn_199 (lv_at hl 8 rfl) ?_
              refine lv_iadd hx hb dX6_goesOn_201 ?_
              refine lv_lload hx hb dX6_goesOn_202 (lv_at hl 9 rfl) ?_
              obtain ⟨hg204, hf⟩ := gd_s hf
              refine va_last (f := (gA e69.2 2)) hx hb hE.1 hP hD hS 14 1 rfl rfl hg204 dX6_goesOn_204 (fun H locs hP hD hS => ?_)
              have hP : va_P D vwCl (WM q cy (sA e69.2 2 (vp_updL (gA e69.2 2) (((4 * s34.2.1) + s55.1).toNatClampNeg) e69.1)) ++ rest) H := hP
              have hD : va_D A (WM q cy (sA e69.2 2 (vp_updL (gA e69.2 2) (((4 * s34.2.1) + s55.1).toNatClampNeg) e69.1)) ++ rest) := hD
              refine lv_iinc (v := (s55.1 + 1)) (lv' := [(10, .int (s55.1 + 1)), (0, .ref (q 0)), (1, .int a1), (2, .int a2), (3, .int a3), (4, .int a4), (5, .long (s34.1 * 20)), (7, .int s34.2.1), (8, .long s34.1), (11, .long e69.1)]) hx hb dX6_goesOn_205 hl (k := 8) rfl (by rfl) (by decide) rfl (fun ls hl => ?_)
              refine lv_goto (tgt := 55) hx hb dX6_goesOn_208 (by decide) ?_
              obtain rfl := o_ret hf
              exact ih55 _ _ (lpK_r h55z) _ _ _ hP hD hS (lv_sub hl [1, 2, 3, 4, 5, 6, 7, 8, 0] rfl) K55_0
        obtain ⟨e55, h55q, hf⟩ := o_bs hf
        obtain ⟨n55v, h55q⟩ := lpF_ex h55q
        refine L55 n55v _ e55 h55q _ _ _ hP hD hS (lv_sub hl [3, 4, 5, 6, 7, 1, 8, 2, 0] rfl) ?_
        intro H locs ls hP hD hS hl
        refine lv_iinc (v := (s34.2.1 + 1)) (lv' := [(7, .int (s34.2.1 + 1)), (0, .ref (q 0)), (1, .int a1), (2, .int a2), (3, .int a3), (4, .int a4), (5, .long (s34.1 * 20))]) hx hb dX6_goesOn_211 hl (k := 6) rfl (by rfl) (by decide) rfl (fun ls hl => ?_)
        refine lv_goto (tgt := 34) hx hb dX6_goesOn_214 (by decide) ?_
        obtain rfl := o_ret hf
        exact ih34 _ _ (lpK_r h34z) _ _ _ hP hD hS (lv_sub hl [1, 2, 3, 4, 5, 6, 0] rfl) K34_0
  obtain ⟨e34, h34q, hf⟩ := o_bs hf
  obtain ⟨n34v, h34q⟩ := lpF_ex h34q
  refine L34 n34v _ e34 h34q _ _ _ hP hD hS (lv_sub hl [1, 2, 3, 4, 5, 6, 0] rfl) ?_
  intro H locs ls hP hD hS hl
  refine lv_lload hx hb dX6_goesOn_217 (lv_at hl 0 rfl) ?_
  obtain rfl := o_ret hf
  exact k_lret hx hb hr hP hD hS (Nat.zero_le _) (Nat.zero_le _) hlocks dX6_goesOn_219
noncomputable def mX6_drive (u : KS) (a1 : Int32) (a2 : Int32) (a3 : Int32) (a4 : Int32) : Option (Int32 × KS) :=
  (mX6_isDrive a1 a3 a4).bind fun r4 =>
  if r4 = 0 then
  ((mX6_bad u).bind fun r23 =>
  some (r23.1, r23.2))
  else
  ((mX6_in (a2.toInt64) 1 10).bind fun r16 =>
  if r16 = 0 then
  ((mX6_bad u).bind fun r23 =>
  some (r23.1, r23.2))
  else
  ((mX6_goesOn u a1 a2 a3 a4).bind fun r33 =>
  some ((gI r33.2 10), r33.2)))
abbrev rmX6_drive : Room := { frames := 3, cells := 0, slots := 0, locals := 67 }
set_option maxRecDepth 100000 in
set_option maxHeartbeats 4000000 in
theorem zX6_drive (l : Launch) (D : va_G) (cy : Nat → ClassId) (sa : Nat → Nat) (q : Nat → Nat) (rest : va_W) (sz : Nat) (u : KS) (a1 : Int32) (a2 : Int32) (a3 : Int32) (a4 : Int32) (res : Int32 × KS) (hf : mX6_drive u a1 a2 a3 a4 = some res) : kMi l yX6_drive (wsK yX6_drive cX6_drive 5 (some .int)) rmX6_drive D cy sa (WM q cy u ++ rest) sz [.ref (q 0), .int a1, .int a2, .int a3, .int a4] res.1 (WM q cy res.2 ++ rest) 0 0 := by
  refine kM_of (Qc := fun A => kQi D A res.1 (WM q cy res.2 ++ rest)) (cc := cX6_drive) (maxL := 5) (ret := (some .int)) (by decide) (Nat.le_of_ble_eq_true rfl) ?_
  intro p e s m below meth c A hx hb hml hr hts hown hlocks hin hA hP hD hS hE hsz ls hl
  have hown : s.vm.findClass RX6 = some m.cls := hown
  obtain ⟨H, hH0⟩ : ∃ H, H = s.heap := ⟨_, rfl⟩
  obtain ⟨locs, hlocs0⟩ : ∃ locs : List Loc, locs = [] := ⟨_, rfl⟩
  have hP : va_P D vwCl (WM q cy u ++ rest) H := by rw [hH0]; exact hP
  have hS : va_S A s.heap H locs := by rw [hH0, hlocs0]; exact hS
  have hl : lv_has ls 5 [(0, .ref (q 0)), (1, .int a1), (2, .int a2), (3, .int a3), (4, .int a4)] := hl
  suffices hgoal : W p l e rmX6_drive s m ([.ref (q 0), .int a1, .int a2, .int a3, .int a4] : List Value).toArray below meth c H locs 0 0 (MQ below (kQi D A res.1 (WM q cy res.2 ++ rest)) ([.ref (q 0), .int a1, .int a2, .int a3, .int a4] : List Value).toArray s 0 0 A) (F0 m 0 ls []) by rw [hH0, hlocs0] at hgoal; exact hgoal
  clear hH0 hlocs0
  unfold mX6_drive at hf
  refine lv_iload_n hx hb dX6_drive_0 rfl (lv_at hl 1 rfl) ?_
  refine lv_iload_n hx hb dX6_drive_1 rfl (lv_at hl 3 rfl) ?_
  refine lv_iload hx hb dX6_drive_2 (lv_at hl 4 rfl) ?_
  obtain ⟨r4, h4r, hf⟩ := o_bs hf
  refine k_goi (va_runS (As := [.int a1, .int a3, .int a4]) (rest := []) ⟨hx, hb, hml, hown, hts⟩ (zX6_isDrive l D cy sa (WM q cy u ++ rest) H.size a1 a3 a4  r4  h4r) (va_cwS 3 hts (gB_S wB767 wB768 wB5 wB769) rfl rfl rfl (by decide +kernel) ⟨Nat.le_of_ble_eq_true rfl, Nat.le_of_ble_eq_true rfl⟩) ⟨kP.blind, k_pre hP hD hS hE hA⟩ rfl rfl hl.1 rfl (lv_room (Nat.le_of_ble_eq_true rfl)) dX6_drive_4 ⟨Nat.zero_le _, Nat.zero_le _⟩) hD hS hA (fun H locs hP hD hS => ?_)
  refine lv_if_eq (tgt := 22) hx hb dX6_drive_7 (by decide) (fun c7 => ?_) (fun c7 => ?_)
  · have hf := o_ip c7 hf
    refine lv_aload_n hx hb dX6_drive_22 rfl (lv_at hl 0 rfl) ?_
    obtain ⟨r23, h23r, hf⟩ := o_bs hf
    refine k_goi (va_runV (As := []) (rest := []) ⟨hx, hb, hml, hown, hts⟩ (zX6_bad l D cy sa q rest H.size u  r23 h23r) (cwV 0 hts (gB_V wB144 wB145 wB146 wB5 wB147) rfl rfl rfl (by decide +kernel) ⟨Nat.le_of_ble_eq_true rfl, Nat.le_of_ble_eq_true rfl⟩) ⟨kP.blind, k_recv hE hP (ci := 6) (q0 := 0) rfl rfl, k_pre hP hD hS hE hA⟩ rfl rfl hl.1 rfl (lv_room (Nat.le_of_ble_eq_true rfl)) dX6_drive_23 ⟨Nat.zero_le _, Nat.zero_le _⟩) hD hS hA (fun H locs hP hD hS => ?_)
    obtain rfl := o_ret hf
    exact k_iret hx hb hr hP hD hS (Nat.zero_le _) (Nat.zero_le _) hlocks dX6_drive_26
  · have hf := o_in c7 hf
    refine lv_iload_n hx hb dX6_drive_10 rfl (lv_at hl 2 rfl) ?_
    refine lv_i2l (v := (a2.toInt64)) hx hb dX6_drive_11 rfl ?_
    refine lv_lconst (v := 1) hx hb dX6_drive_12 (by decide) ?_
    refine lv_ldc2 (v := 10) hx hb hown (hts _ wB766) dX6_drive_13 ?_
    obtain ⟨r16, h16r, hf⟩ := o_bs hf
    refine k_goi (va_runS (As := [.long (a2.toInt64), .long 1, .long 10]) (rest := []) ⟨hx, hb, hml, hown, hts⟩ (zX6_in l D cy sa (WM q cy u ++ rest) H.size (a2.toInt64) 1 10  r16  h16r) (va_cwS 3 hts (gB_S wB141 wB142 wB5 wB143) rfl rfl rfl (by decide +kernel) ⟨Nat.le_of_ble_eq_true rfl, Nat.le_of_ble_eq_true rfl⟩) ⟨kP.blind, k_pre hP hD hS hE hA⟩ rfl rfl hl.1 rfl (lv_room (Nat.le_of_ble_eq_true rfl)) dX6_drive_16 ⟨Nat.zero_le _, Nat.zero_le _⟩) hD hS hA (fun H locs hP hD hS => ?_)
    refine lv_if_ne (tgt := 27) hx hb dX6_drive_19 (by decide) (fun c19 => ?_) (fun c19 => ?_)
    · have hf := o_in c19 hf
      refine lv_aload_n hx hb dX6_drive_27 rfl (lv_at hl 0 rfl) ?_
      refine lv_iload_n hx hb dX6_drive_28 rfl (lv_at hl 1 rfl) ?_
      refine lv_iload_n hx hb dX6_drive_29 rfl (lv_at hl 2 rfl) ?_
      refine lv_iload_n hx hb dX6_drive_30 rfl (lv_at hl 3 rfl) ?_
      refine lv_iload hx hb dX6_drive_31 (lv_at hl 4 rfl) ?_
      obtain ⟨r33, h33r, hf⟩ := o_bs hf
      refine k_gol (va_runV (As := [.int a1, .int a2, .int a3, .int a4]) (rest := []) ⟨hx, hb, hml, hown, hts⟩ (zX6_goesOn l D cy sa q rest H.size u a1 a2 a3 a4 r33 h33r) (cwV 4 hts (gB_V wB771 wB772 wB773 wB5 wB774) rfl rfl rfl (by decide +kernel) ⟨Nat.le_of_ble_eq_true rfl, Nat.le_of_ble_eq_true rfl⟩) ⟨kP.blind, k_recv hE hP (ci := 6) (q0 := 0) rfl rfl, k_pre hP hD hS hE hA⟩ rfl rfl hl.1 rfl (lv_room (Nat.le_of_ble_eq_true rfl)) dX6_drive_33 ⟨Nat.zero_le _, Nat.zero_le _⟩) hD hS hA (fun H locs hP hD hS => ?_)
      refine lv_pop2_2 hx hb dX6_drive_36 rfl ?_
      refine lv_aload_n hx hb dX6_drive_37 rfl (lv_at hl 0 rfl) ?_
      refine va_get (ci := 6) (v := .int (gI r33.2 10)) (C := RX6) (T := TX6) (N := 26) hx hb hts inlX6 hown hE.1 hP 0 rfl rfl 25 (by decide) (hts _ wB775) (fun _ h9 => h9) rfl dX6_drive_38 ?_
      obtain rfl := o_ret hf
      exact k_iret hx hb hr hP hD hS (Nat.zero_le _) (Nat.zero_le _) hlocks dX6_drive_41
    · have hf := o_ip c19 hf
      refine lv_aload_n hx hb dX6_drive_22 rfl (lv_at hl 0 rfl) ?_
      obtain ⟨r23, h23r, hf⟩ := o_bs hf
      refine k_goi (va_runV (As := []) (rest := []) ⟨hx, hb, hml, hown, hts⟩ (zX6_bad l D cy sa q rest H.size u  r23 h23r) (cwV 0 hts (gB_V wB144 wB145 wB146 wB5 wB147) rfl rfl rfl (by decide +kernel) ⟨Nat.le_of_ble_eq_true rfl, Nat.le_of_ble_eq_true rfl⟩) ⟨kP.blind, k_recv hE hP (ci := 6) (q0 := 0) rfl rfl, k_pre hP hD hS hE hA⟩ rfl rfl hl.1 rfl (lv_room (Nat.le_of_ble_eq_true rfl)) dX6_drive_23 ⟨Nat.zero_le _, Nat.zero_le _⟩) hD hS hA (fun H locs hP hD hS => ?_)
      obtain rfl := o_ret hf
      exact k_iret hx hb hr hP hD hS (Nat.zero_le _) (Nat.zero_le _) hlocks dX6_drive_26
noncomputable def mX6_fault (u : KS) (a1 : Int32) (a2 : Int32) (a3 : Int32) : Option (Int32 × KS) :=
  if a2 = (-1) then
  (if a3 = 0 then
  ((mX6_in (a1.toInt64) 0 3).bind fun r22 =>
  if r22 = 0 then
  ((mX6_bad u).bind fun r58 =>
  some (r58.1, r58.2))
  else
  (gd (inb (15 + a1) 200) (some (1, (sR u 0 (upd (gR u 0) ((15 + a1).toNatClampNeg) (-1)))))))
  else
  ((mX6_in (a1.toInt64) 0 3).bind fun r22 =>
  if r22 = 0 then
  ((mX6_bad u).bind fun r58 =>
  some (r58.1, r58.2))
  else
  ((mX6_in (a2.toInt64) 0 6).bind fun r39 =>
  if r39 = 0 then
  ((mX6_bad u).bind fun r58 =>
  some (r58.1, r58.2))
  else
  ((mX6_in (a3.toInt64) 1 3).bind fun r51 =>
  if r51 = 0 then
  ((mX6_bad u).bind fun r58 =>
  some (r58.1, r58.2))
  else
  (gd (inb (15 + a1) 200) (some (1, (sR u 0 (upd (gR u 0) ((15 + a1).toNatClampNeg) (((3 * a2) + a3) - 1))))))))))
  else
  ((mX6_in (a1.toInt64) 0 3).bind fun r22 =>
  if r22 = 0 then
  ((mX6_bad u).bind fun r58 =>
  some (r58.1, r58.2))
  else
  ((mX6_in (a2.toInt64) 0 6).bind fun r39 =>
  if r39 = 0 then
  ((mX6_bad u).bind fun r58 =>
  some (r58.1, r58.2))
  else
  ((mX6_in (a3.toInt64) 1 3).bind fun r51 =>
  if r51 = 0 then
  ((mX6_bad u).bind fun r58 =>
  some (r58.1, r58.2))
  else
  (gd (inb (15 + a1) 200) (some (1, (sR u 0 (upd (gR u 0) ((15 + a1).toNatClampNeg) (((3 * a2) + a3) - 1)))))))))
abbrev rmX6_fault : Room := { frames := 2, cells := 0, slots := 0, locals := 42 }
set_option maxRecDepth 100000 in
set_option maxHeartbeats 4000000 in
theorem zX6_fault (l : Launch) (D : va_G) (cy : Nat → ClassId) (sa : Nat → Nat) (q : Nat → Nat) (rest : va_W) (sz : Nat) (u : KS) (a1 : Int32) (a2 : Int32) (a3 : Int32) (res : Int32 × KS) (hf : mX6_fault u a1 a2 a3 = some res) : kMi l yX6_fault (wsK yX6_fault cX6_fault 5 (some .int)) rmX6_fault D cy sa (WM q cy u ++ rest) sz [.ref (q 0), .int a1, .int a2, .int a3] res.1 (WM q cy res.2 ++ rest) 0 0 := by
  refine kM_of (Qc := fun A => kQi D A res.1 (WM q cy res.2 ++ rest)) (cc := cX6_fault) (maxL := 5) (ret := (some .int)) (by decide) (Nat.le_of_ble_eq_true rfl) ?_
  intro p e s m below meth c A hx hb hml hr hts hown hlocks hin hA hP hD hS hE hsz ls hl
  have hown : s.vm.findClass RX6 = some m.cls := hown
  obtain ⟨H, hH0⟩ : ∃ H, H = s.heap := ⟨_, rfl⟩
  obtain ⟨locs, hlocs0⟩ : ∃ locs : List Loc, locs = [] := ⟨_, rfl⟩
  have hP : va_P D vwCl (WM q cy u ++ rest) H := by rw [hH0]; exact hP
  have hS : va_S A s.heap H locs := by rw [hH0, hlocs0]; exact hS
  have hl : lv_has ls 5 [(0, .ref (q 0)), (1, .int a1), (2, .int a2), (3, .int a3)] := hl
  suffices hgoal : W p l e rmX6_fault s m ([.ref (q 0), .int a1, .int a2, .int a3] : List Value).toArray below meth c H locs 0 0 (MQ below (kQi D A res.1 (WM q cy res.2 ++ rest)) ([.ref (q 0), .int a1, .int a2, .int a3] : List Value).toArray s 0 0 A) (F0 m 0 ls []) by rw [hH0, hlocs0] at hgoal; exact hgoal
  clear hH0 hlocs0
  unfold mX6_fault at hf
  refine lv_iload_n hx hb dX6_fault_0 rfl (lv_at hl 2 rfl) ?_
  refine lv_iconst (v := (-1)) hx hb dX6_fault_1 (by decide) ?_
  refine lv_icmp_ne (tgt := 13) hx hb dX6_fault_2 (by decide) (fun c2 => ?_) (fun c2 => ?_)
  · have hf := o_in c2 hf
    refine lv_iconst (v := 0) hx hb dX6_fault_13 (by decide) ?_
    refine lv_istore (lv' := [(4, .int 0), (0, .ref (q 0)), (1, .int a1), (2, .int a2), (3, .int a3)]) hx hb dX6_fault_14 hl (by decide) rfl (fun ls hl => ?_)
    refine lv_iload_n hx hb dX6_fault_16 rfl (lv_at hl 2 rfl) ?_
    refine lv_i2l (v := (a1.toInt64)) hx hb dX6_fault_17 rfl ?_
    refine lv_lconst (v := 0) hx hb dX6_fault_18 (by decide) ?_
    refine lv_ldc2 (v := 3) hx hb hown (hts _ wB376) dX6_fault_19 ?_
    obtain ⟨r22, h22r, hf⟩ := o_bs hf
    refine k_goi (va_runS (As := [.long (a1.toInt64), .long 0, .long 3]) (rest := []) ⟨hx, hb, hml, hown, hts⟩ (zX6_in l D cy sa (WM q cy u ++ rest) H.size (a1.toInt64) 0 3  r22  h22r) (va_cwS 3 hts (gB_S wB141 wB142 wB5 wB143) rfl rfl rfl (by decide +kernel) ⟨Nat.le_of_ble_eq_true rfl, Nat.le_of_ble_eq_true rfl⟩) ⟨kP.blind, k_pre hP hD hS hE hA⟩ rfl rfl hl.1 rfl (lv_room (Nat.le_of_ble_eq_true rfl)) dX6_fault_22 ⟨Nat.zero_le _, Nat.zero_le _⟩) hD hS hA (fun H locs hP hD hS => ?_)
    refine lv_if_eq (tgt := 57) hx hb dX6_fault_25 (by decide) (fun c25 => ?_) (fun c25 => ?_)
    · have hf := o_ip c25 hf
      refine lv_aload_n hx hb dX6_fault_57 rfl (lv_at hl 1 rfl) ?_
      obtain ⟨r58, h58r, hf⟩ := o_bs hf
      refine k_goi (va_runV (As := []) (rest := []) ⟨hx, hb, hml, hown, hts⟩ (zX6_bad l D cy sa q rest H.size u  r58 h58r) (cwV 0 hts (gB_V wB144 wB145 wB146 wB5 wB147) rfl rfl rfl (by decide +kernel) ⟨Nat.le_of_ble_eq_true rfl, Nat.le_of_ble_eq_true rfl⟩) ⟨kP.blind, k_recv hE hP (ci := 6) (q0 := 0) rfl rfl, k_pre hP hD hS hE hA⟩ rfl rfl hl.1 rfl (lv_room (Nat.le_of_ble_eq_true rfl)) dX6_fault_58 ⟨Nat.zero_le _, Nat.zero_le _⟩) hD hS hA (fun H locs hP hD hS => ?_)
      obtain rfl := o_ret hf
      exact k_iret hx hb hr hP hD hS (Nat.zero_le _) (Nat.zero_le _) hlocks dX6_fault_61
    · have hf := o_in c25 hf
      refine lv_iload hx hb dX6_fault_28 (lv_at hl 0 rfl) ?_
      refine lv_if_ne (tgt := 62) hx hb dX6_fault_30 (by decide) (fun c30 => absurd c30 (by decide)) (fun c30 => ?_)
      refine lv_iload_n hx hb dX6_fault_33 rfl (lv_at hl 3 rfl) ?_
      refine lv_i2l (v := (a2.toInt64)) hx hb dX6_fault_34 rfl ?_
      refine lv_lconst (v := 0) hx hb dX6_fault_35 (by decide) ?_
      refine lv_ldc2 (v := 6) hx hb hown (hts _ wB357) dX6_fault_36 ?_
      obtain ⟨r39, h39r, hf⟩ := o_bs hf
      refine k_goi (va_runS (As := [.long (a2.toInt64), .long 0, .long 6]) (rest := []) ⟨hx, hb, hml, hown, hts⟩ (zX6_in l D cy sa (WM q cy u ++ rest) H.size (a2.toInt64) 0 6  r39  h39r) (va_cwS 3 hts (gB_S wB141 wB142 wB5 wB143) rfl rfl rfl (by decide +kernel) ⟨Nat.le_of_ble_eq_true rfl, Nat.le_of_ble_eq_true rfl⟩) ⟨kP.blind, k_pre hP hD hS hE hA⟩ rfl rfl hl.1 rfl (lv_room (Nat.le_of_ble_eq_true rfl)) dX6_fault_39 ⟨Nat.zero_le _, Nat.zero_le _⟩) hD hS hA (fun H locs hP hD hS => ?_)
      refine lv_if_eq (tgt := 57) hx hb dX6_fault_42 (by decide) (fun c42 => ?_) (fun c42 => ?_)
      · have hf := o_ip c42 hf
        refine lv_aload_n hx hb dX6_fault_57 rfl (lv_at hl 1 rfl) ?_
        obtain ⟨r58, h58r, hf⟩ := o_bs hf
        refine k_goi (va_runV (As := []) (rest := []) ⟨hx, hb, hml, hown, hts⟩ (zX6_bad l D cy sa q rest H.size u  r58 h58r) (cwV 0 hts (gB_V wB144 wB145 wB146 wB5 wB147) rfl rfl rfl (by decide +kernel) ⟨Nat.le_of_ble_eq_true rfl, Nat.le_of_ble_eq_true rfl⟩) ⟨kP.blind, k_recv hE hP (ci := 6) (q0 := 0) rfl rfl, k_pre hP hD hS hE hA⟩ rfl rfl hl.1 rfl (lv_room (Nat.le_of_ble_eq_true rfl)) dX6_fault_58 ⟨Nat.zero_le _, Nat.zero_le _⟩) hD hS hA (fun H locs hP hD hS => ?_)
        obtain rfl := o_ret hf
        exact k_iret hx hb hr hP hD hS (Nat.zero_le _) (Nat.zero_le _) hlocks dX6_fault_61
      · have hf := o_in c42 hf
        refine lv_iload_n hx hb dX6_fault_45 rfl (lv_at hl 4 rfl) ?_
        refine lv_i2l (v := (a3.toInt64)) hx hb dX6_fault_46 rfl ?_
        refine lv_lconst (v := 1) hx hb dX6_fault_47 (by decide) ?_
        refine lv_ldc2 (v := 3) hx hb hown (hts _ wB376) dX6_fault_48 ?_
        obtain ⟨r51, h51r, hf⟩ := o_bs hf
        refine k_goi (va_runS (As := [.long (a3.toInt64), .long 1, .long 3]) (rest := []) ⟨hx, hb, hml, hown, hts⟩ (zX6_in l D cy sa (WM q cy u ++ rest) H.size (a3.toInt64) 1 3  r51  h51r) (va_cwS 3 hts (gB_S wB141 wB142 wB5 wB143) rfl rfl rfl (by decide +kernel) ⟨Nat.le_of_ble_eq_true rfl, Nat.le_of_ble_eq_true rfl⟩) ⟨kP.blind, k_pre hP hD hS hE hA⟩ rfl rfl hl.1 rfl (lv_room (Nat.le_of_ble_eq_true rfl)) dX6_fault_51 ⟨Nat.zero_le _, Nat.zero_le _⟩) hD hS hA (fun H locs hP hD hS => ?_)
        refine lv_if_ne (tgt := 62) hx hb dX6_fault_54 (by decide) (fun c54 => ?_) (fun c54 => ?_)
        · have hf := o_in c54 hf
          refine lv_aload_n hx hb dX6_fault_62 rfl (lv_at hl 1 rfl) ?_
          refine va_get (ci := 6) (v := .ref (q 1)) (C := RX6) (T := TX6) (N := 26) hx hb hts inlX6 hown hE.1 hP 0 rfl rfl 0 (by decide) (hts _ wB83) (fun _ h9 => h9) rfl dX6_fault_63 ?_
          refine lv_bipush (v := 15) hx hb dX6_fault_66 (by decide) ?_
          refine lv_iload_n hx hb dX6_fault_68 rfl (lv_at hl 2 rfl) ?_
          refine lv_iadd hx hb dX6_fault_69 ?_
          refine lv_iload hx hb dX6_fault_70 (lv_at hl 0 rfl) ?_
          refine lv_if_eq (tgt := 79) hx hb dX6_fault_72 (by decide) (fun c72 => ?_) (fun c72 => absurd c72 (by decide))
          refine lv_iconst (v := 3) hx hb dX6_fault_79 (by decide) ?_
          refine lv_iload_n hx hb dX6_fault_80 rfl (lv_at hl 3 rfl) ?_
          refine lv_imul hx hb dX6_fault_81 ?_
          refine lv_iload_n hx hb dX6_fault_82 rfl (lv_at hl 4 rfl) ?_
          refine lv_iadd hx hb dX6_fault_83 ?_
          refine lv_iconst (v := 1) hx hb dX6_fault_84 (by decide) ?_
          refine lv_isub hx hb dX6_fault_85 ?_
          obtain ⟨hg86, hf⟩ := gd_s hf
          refine va_iast (f := (gR u 0)) hx hb hE.1 hP hD hS 1 0 rfl rfl hg86 dX6_fault_86 (fun H locs hP hD hS => ?_)
          have hP : va_P D vwCl (WM q cy (sR u 0 (upd (gR u 0) ((15 + a1).toNatClampNeg) (((3 * a2) + a3) - 1))) ++ rest) H := hP
          have hD : va_D A (WM q cy (sR u 0 (upd (gR u 0) ((15 + a1).toNatClampNeg) (((3 * a2) + a3) - 1))) ++ rest) := hD
          refine lv_iconst (v := 1) hx hb dX6_fault_87 (by decide) ?_
          obtain rfl := o_ret hf
          exact k_iret hx hb hr hP hD hS (Nat.zero_le _) (Nat.zero_le _) hlocks dX6_fault_88
        · have hf := o_ip c54 hf
          refine lv_aload_n hx hb dX6_fault_57 rfl (lv_at hl 1 rfl) ?_
          obtain ⟨r58, h58r, hf⟩ := o_bs hf
          refine k_goi (va_runV (As := []) (rest := []) ⟨hx, hb, hml, hown, hts⟩ (zX6_bad l D cy sa q rest H.size u  r58 h58r) (cwV 0 hts (gB_V wB144 wB145 wB146 wB5 wB147) rfl rfl rfl (by decide +kernel) ⟨Nat.le_of_ble_eq_true rfl, Nat.le_of_ble_eq_true rfl⟩) ⟨kP.blind, k_recv hE hP (ci := 6) (q0 := 0) rfl rfl, k_pre hP hD hS hE hA⟩ rfl rfl hl.1 rfl (lv_room (Nat.le_of_ble_eq_true rfl)) dX6_fault_58 ⟨Nat.zero_le _, Nat.zero_le _⟩) hD hS hA (fun H locs hP hD hS => ?_)
          obtain rfl := o_ret hf
          exact k_iret hx hb hr hP hD hS (Nat.zero_le _) (Nat.zero_le _) hlocks dX6_fault_61
  · have hf := o_ip c2 hf
    refine lv_iload_n hx hb dX6_fault_5 rfl (lv_at hl 3 rfl) ?_
    refine lv_if_ne (tgt := 13) hx hb dX6_fault_6 (by decide) (fun c6 => ?_) (fun c6 => ?_)
    · have hf := o_in c6 hf
      refine lv_iconst (v := 0) hx hb dX6_fault_13 (by decide) ?_
      refine lv_istore (lv' := [(4, .int 0), (0, .ref (q 0)), (1, .int a1), (2, .int a2), (3, .int a3)]) hx hb dX6_fault_14 hl (by decide) rfl (fun ls hl => ?_)
      refine lv_iload_n hx hb dX6_fault_16 rfl (lv_at hl 2 rfl) ?_
      refine lv_i2l (v := (a1.toInt64)) hx hb dX6_fault_17 rfl ?_
      refine lv_lconst (v := 0) hx hb dX6_fault_18 (by decide) ?_
      refine lv_ldc2 (v := 3) hx hb hown (hts _ wB376) dX6_fault_19 ?_
      obtain ⟨r22, h22r, hf⟩ := o_bs hf
      refine k_goi (va_runS (As := [.long (a1.toInt64), .long 0, .long 3]) (rest := []) ⟨hx, hb, hml, hown, hts⟩ (zX6_in l D cy sa (WM q cy u ++ rest) H.size (a1.toInt64) 0 3  r22  h22r) (va_cwS 3 hts (gB_S wB141 wB142 wB5 wB143) rfl rfl rfl (by decide +kernel) ⟨Nat.le_of_ble_eq_true rfl, Nat.le_of_ble_eq_true rfl⟩) ⟨kP.blind, k_pre hP hD hS hE hA⟩ rfl rfl hl.1 rfl (lv_room (Nat.le_of_ble_eq_true rfl)) dX6_fault_22 ⟨Nat.zero_le _, Nat.zero_le _⟩) hD hS hA (fun H locs hP hD hS => ?_)
      refine lv_if_eq (tgt := 57) hx hb dX6_fault_25 (by decide) (fun c25 => ?_) (fun c25 => ?_)
      · have hf := o_ip c25 hf
        refine lv_aload_n hx hb dX6_fault_57 rfl (lv_at hl 1 rfl) ?_
        obtain ⟨r58, h58r, hf⟩ := o_bs hf
        refine k_goi (va_runV (As := []) (rest := []) ⟨hx, hb, hml, hown, hts⟩ (zX6_bad l D cy sa q rest H.size u  r58 h58r) (cwV 0 hts (gB_V wB144 wB145 wB146 wB5 wB147) rfl rfl rfl (by decide +kernel) ⟨Nat.le_of_ble_eq_true rfl, Nat.le_of_ble_eq_true rfl⟩) ⟨kP.blind, k_recv hE hP (ci := 6) (q0 := 0) rfl rfl, k_pre hP hD hS hE hA⟩ rfl rfl hl.1 rfl (lv_room (Nat.le_of_ble_eq_true rfl)) dX6_fault_58 ⟨Nat.zero_le _, Nat.zero_le _⟩) hD hS hA (fun H locs hP hD hS => ?_)
        obtain rfl := o_ret hf
        exact k_iret hx hb hr hP hD hS (Nat.zero_le _) (Nat.zero_le _) hlocks dX6_fault_61
      · have hf := o_in c25 hf
        refine lv_iload hx hb dX6_fault_28 (lv_at hl 0 rfl) ?_
        refine lv_if_ne (tgt := 62) hx hb dX6_fault_30 (by decide) (fun c30 => absurd c30 (by decide)) (fun c30 => ?_)
        refine lv_iload_n hx hb dX6_fault_33 rfl (lv_at hl 3 rfl) ?_
        refine lv_i2l (v := (a2.toInt64)) hx hb dX6_fault_34 rfl ?_
        refine lv_lconst (v := 0) hx hb dX6_fault_35 (by decide) ?_
        refine lv_ldc2 (v := 6) hx hb hown (hts _ wB357) dX6_fault_36 ?_
        obtain ⟨r39, h39r, hf⟩ := o_bs hf
        refine k_goi (va_runS (As := [.long (a2.toInt64), .long 0, .long 6]) (rest := []) ⟨hx, hb, hml, hown, hts⟩ (zX6_in l D cy sa (WM q cy u ++ rest) H.size (a2.toInt64) 0 6  r39  h39r) (va_cwS 3 hts (gB_S wB141 wB142 wB5 wB143) rfl rfl rfl (by decide +kernel) ⟨Nat.le_of_ble_eq_true rfl, Nat.le_of_ble_eq_true rfl⟩) ⟨kP.blind, k_pre hP hD hS hE hA⟩ rfl rfl hl.1 rfl (lv_room (Nat.le_of_ble_eq_true rfl)) dX6_fault_39 ⟨Nat.zero_le _, Nat.zero_le _⟩) hD hS hA (fun H locs hP hD hS => ?_)
        refine lv_if_eq (tgt := 57) hx hb dX6_fault_42 (by decide) (fun c42 => ?_) (fun c42 => ?_)
        · have hf := o_ip c42 hf
          refine lv_aload_n hx hb dX6_fault_57 rfl (lv_at hl 1 rfl) ?_
          obtain ⟨r58, h58r, hf⟩ := o_bs hf
          refine k_goi (va_runV (As := []) (rest := []) ⟨hx, hb, hml, hown, hts⟩ (zX6_bad l D cy sa q rest H.size u  r58 h58r) (cwV 0 hts (gB_V wB144 wB145 wB146 wB5 wB147) rfl rfl rfl (by decide +kernel) ⟨Nat.le_of_ble_eq_true rfl, Nat.le_of_ble_eq_true rfl⟩) ⟨kP.blind, k_recv hE hP (ci := 6) (q0 := 0) rfl rfl, k_pre hP hD hS hE hA⟩ rfl rfl hl.1 rfl (lv_room (Nat.le_of_ble_eq_true rfl)) dX6_fault_58 ⟨Nat.zero_le _, Nat.zero_le _⟩) hD hS hA (fun H locs hP hD hS => ?_)
          obtain rfl := o_ret hf
          exact k_iret hx hb hr hP hD hS (Nat.zero_le _) (Nat.zero_le _) hlocks dX6_fault_61
        · have hf := o_in c42 hf
          refine lv_iload_n hx hb dX6_fault_45 rfl (lv_at hl 4 rfl) ?_
          refine lv_i2l (v := (a3.toInt64)) hx hb dX6_fault_46 rfl ?_
          refine lv_lconst (v := 1) hx hb dX6_fault_47 (by decide) ?_
          refine lv_ldc2 (v := 3) hx hb hown (hts _ wB376) dX6_fault_48 ?_
          obtain ⟨r51, h51r, hf⟩ := o_bs hf
          refine k_goi (va_runS (As := [.long (a3.toInt64), .long 1, .long 3]) (rest := []) ⟨hx, hb, hml, hown, hts⟩ (zX6_in l D cy sa (WM q cy u ++ rest) H.size (a3.toInt64) 1 3  r51  h51r) (va_cwS 3 hts (gB_S wB141 wB142 wB5 wB143) rfl rfl rfl (by decide +kernel) ⟨Nat.le_of_ble_eq_true rfl, Nat.le_of_ble_eq_true rfl⟩) ⟨kP.blind, k_pre hP hD hS hE hA⟩ rfl rfl hl.1 rfl (lv_room (Nat.le_of_ble_eq_true rfl)) dX6_fault_51 ⟨Nat.zero_le _, Nat.zero_le _⟩) hD hS hA (fun H locs hP hD hS => ?_)
          refine lv_if_ne (tgt := 62) hx hb dX6_fault_54 (by decide) (fun c54 => ?_) (fun c54 => ?_)
          · have hf := o_in c54 hf
            refine lv_aload_n hx hb dX6_fault_62 rfl (lv_at hl 1 rfl) ?_
            refine va_get (ci := 6) (v := .ref (q 1)) (C := RX6) (T := TX6) (N := 26) hx hb hts inlX6 hown hE.1 hP 0 rfl rfl 0 (by decide) (hts _ wB83) (fun _ h9 => h9) rfl dX6_fault_63 ?_
            refine lv_bipush (v := 15) hx hb dX6_fault_66 (by decide) ?_
            refine lv_iload_n hx hb dX6_fault_68 rfl (lv_at hl 2 rfl) ?_
            refine lv_iadd hx hb dX6_fault_69 ?_
            refine lv_iload hx hb dX6_fault_70 (lv_at hl 0 rfl) ?_
            refine lv_if_eq (tgt := 79) hx hb dX6_fault_72 (by decide) (fun c72 => ?_) (fun c72 => absurd c72 (by decide))
            refine lv_iconst (v := 3) hx hb dX6_fault_79 (by decide) ?_
            refine lv_iload_n hx hb dX6_fault_80 rfl (lv_at hl 3 rfl) ?_
            refine lv_imul hx hb dX6_fault_81 ?_
            refine lv_iload_n hx hb dX6_fault_82 rfl (lv_at hl 4 rfl) ?_
            refine lv_iadd hx hb dX6_fault_83 ?_
            refine lv_iconst (v := 1) hx hb dX6_fault_84 (by decide) ?_
            refine lv_isub hx hb dX6_fault_85 ?_
            obtain ⟨hg86, hf⟩ := gd_s hf
            refine va_iast (f := (gR u 0)) hx hb hE.1 hP hD hS 1 0 rfl rfl hg86 dX6_fault_86 (fun H locs hP hD hS => ?_)
            have hP : va_P D vwCl (WM q cy (sR u 0 (upd (gR u 0) ((15 + a1).toNatClampNeg) (((3 * a2) + a3) - 1))) ++ rest) H := hP
            have hD : va_D A (WM q cy (sR u 0 (upd (gR u 0) ((15 + a1).toNatClampNeg) (((3 * a2) + a3) - 1))) ++ rest) := hD
            refine lv_iconst (v := 1) hx hb dX6_fault_87 (by decide) ?_
            obtain rfl := o_ret hf
            exact k_iret hx hb hr hP hD hS (Nat.zero_le _) (Nat.zero_le _) hlocks dX6_fault_88
          · have hf := o_ip c54 hf
            refine lv_aload_n hx hb dX6_fault_57 rfl (lv_at hl 1 rfl) ?_
            obtain ⟨r58, h58r, hf⟩ := o_bs hf
            refine k_goi (va_runV (As := []) (rest := []) ⟨hx, hb, hml, hown, hts⟩ (zX6_bad l D cy sa q rest H.size u  r58 h58r) (cwV 0 hts (gB_V wB144 wB145 wB146 wB5 wB147) rfl rfl rfl (by decide +kernel) ⟨Nat.le_of_ble_eq_true rfl, Nat.le_of_ble_eq_true rfl⟩) ⟨kP.blind, k_recv hE hP (ci := 6) (q0 := 0) rfl rfl, k_pre hP hD hS hE hA⟩ rfl rfl hl.1 rfl (lv_room (Nat.le_of_ble_eq_true rfl)) dX6_fault_58 ⟨Nat.zero_le _, Nat.zero_le _⟩) hD hS hA (fun H locs hP hD hS => ?_)
            obtain rfl := o_ret hf
            exact k_iret hx hb hr hP hD hS (Nat.zero_le _) (Nat.zero_le _) hlocks dX6_fault_61
    · have hf := o_ip c6 hf
      refine lv_iconst (v := 1) hx hb dX6_fault_9 (by decide) ?_
      refine lv_goto (tgt := 14) hx hb dX6_fault_10 (by decide) ?_
      refine lv_istore (lv' := [(4, .int 1), (0, .ref (q 0)), (1, .int a1), (2, .int a2), (3, .int a3)]) hx hb dX6_fault_14 hl (by decide) rfl (fun ls hl => ?_)
      refine lv_iload_n hx hb dX6_fault_16 rfl (lv_at hl 2 rfl) ?_
      refine lv_i2l (v := (a1.toInt64)) hx hb dX6_fault_17 rfl ?_
      refine lv_lconst (v := 0) hx hb dX6_fault_18 (by decide) ?_
      refine lv_ldc2 (v := 3) hx hb hown (hts _ wB376) dX6_fault_19 ?_
      obtain ⟨r22, h22r, hf⟩ := o_bs hf
      refine k_goi (va_runS (As := [.long (a1.toInt64), .long 0, .long 3]) (rest := []) ⟨hx, hb, hml, hown, hts⟩ (zX6_in l D cy sa (WM q cy u ++ rest) H.size (a1.toInt64) 0 3  r22  h22r) (va_cwS 3 hts (gB_S wB141 wB142 wB5 wB143) rfl rfl rfl (by decide +kernel) ⟨Nat.le_of_ble_eq_true rfl, Nat.le_of_ble_eq_true rfl⟩) ⟨kP.blind, k_pre hP hD hS hE hA⟩ rfl rfl hl.1 rfl (lv_room (Nat.le_of_ble_eq_true rfl)) dX6_fault_22 ⟨Nat.zero_le _, Nat.zero_le _⟩) hD hS hA (fun H locs hP hD hS => ?_)
      refine lv_if_eq (tgt := 57) hx hb dX6_fault_25 (by decide) (fun c25 => ?_) (fun c25 => ?_)
      · have hf := o_ip c25 hf
        refine lv_aload_n hx hb dX6_fault_57 rfl (lv_at hl 1 rfl) ?_
        obtain ⟨r58, h58r, hf⟩ := o_bs hf
        refine k_goi (va_runV (As := []) (rest := []) ⟨hx, hb, hml, hown, hts⟩ (zX6_bad l D cy sa q rest H.size u  r58 h58r) (cwV 0 hts (gB_V wB144 wB145 wB146 wB5 wB147) rfl rfl rfl (by decide +kernel) ⟨Nat.le_of_ble_eq_true rfl, Nat.le_of_ble_eq_true rfl⟩) ⟨kP.blind, k_recv hE hP (ci := 6) (q0 := 0) rfl rfl, k_pre hP hD hS hE hA⟩ rfl rfl hl.1 rfl (lv_room (Nat.le_of_ble_eq_true rfl)) dX6_fault_58 ⟨Nat.zero_le _, Nat.zero_le _⟩) hD hS hA (fun H locs hP hD hS => ?_)
        obtain rfl := o_ret hf
        exact k_iret hx hb hr hP hD hS (Nat.zero_le _) (Nat.zero_le _) hlocks dX6_fault_61
      · have hf := o_in c25 hf
        refine lv_iload hx hb dX6_fault_28 (lv_at hl 0 rfl) ?_
        refine lv_if_ne (tgt := 62) hx hb dX6_fault_30 (by decide) (fun c30 => ?_) (fun c30 => absurd c30 (by decide))
        refine lv_aload_n hx hb dX6_fault_62 rfl (lv_at hl 1 rfl) ?_
        refine va_get (ci := 6) (v := .ref (q 1)) (C := RX6) (T := TX6) (N := 26) hx hb hts inlX6 hown hE.1 hP 0 rfl rfl 0 (by decide) (hts _ wB83) (fun _ h9 => h9) rfl dX6_fault_63 ?_
        refine lv_bipush (v := 15) hx hb dX6_fault_66 (by decide) ?_
        refine lv_iload_n hx hb dX6_fault_68 rfl (lv_at hl 2 rfl) ?_
        refine lv_iadd hx hb dX6_fault_69 ?_
        refine lv_iload hx hb dX6_fault_70 (lv_at hl 0 rfl) ?_
        refine lv_if_eq (tgt := 79) hx hb dX6_fault_72 (by decide) (fun c72 => absurd c72 (by decide)) (fun c72 => ?_)
        refine lv_iconst (v := (-1)) hx hb dX6_fault_75 (by decide) ?_
        refine lv_goto (tgt := 86) hx hb dX6_fault_76 (by decide) ?_
        obtain ⟨hg86, hf⟩ := gd_s hf
        refine va_iast (f := (gR u 0)) hx hb hE.1 hP hD hS 1 0 rfl rfl hg86 dX6_fault_86 (fun H locs hP hD hS => ?_)
        have hP : va_P D vwCl (WM q cy (sR u 0 (upd (gR u 0) ((15 + a1).toNatClampNeg) (-1))) ++ rest) H := hP
        have hD : va_D A (WM q cy (sR u 0 (upd (gR u 0) ((15 + a1).toNatClampNeg) (-1))) ++ rest) := hD
        refine lv_iconst (v := 1) hx hb dX6_fault_87 (by decide) ?_
        obtain rfl := o_ret hf
        exact k_iret hx hb hr hP hD hS (Nat.zero_le _) (Nat.zero_le _) hlocks dX6_fault_88
noncomputable def mX6_isAt (u : KS) (a1 : Int32) (a2 : Int32) : Option (Int32) :=
  if ((gR u 0) ((0 : Int32).toNatClampNeg)) ≤ (gI u 1) then
  (some 0)
  else
  (gd (inb (80 + (gI u 1)) 200) ((mX6_in (((gR u 0) ((80 + (gI u 1)).toNatClampNeg)).toInt64) (a1.toInt64) (a2.toInt64)).bind fun r30 =>
  if r30 = 0 then
  (some 0)
  else
  (some 1)))
abbrev rmX6_isAt : Room := { frames := 1, cells := 0, slots := 0, locals := 25 }
set_option maxRecDepth 100000 in
set_option maxHeartbeats 4000000 in
theorem zX6_isAt (l : Launch) (D : va_G) (cy : Nat → ClassId) (sa : Nat → Nat) (q : Nat → Nat) (rest : va_W) (sz : Nat) (u : KS) (a1 : Int32) (a2 : Int32) (res : Int32) (hf : mX6_isAt u a1 a2 = some res) : kMi l yX6_isAt (wsK yX6_isAt cX6_isAt 3 (some .boolean)) rmX6_isAt D cy sa (WM q cy u ++ rest) sz [.ref (q 0), .int a1, .int a2] res (WM q cy u ++ rest) 0 0 := by
  refine kM_of (Qc := fun A => kQi D A res (WM q cy u ++ rest)) (cc := cX6_isAt) (maxL := 3) (ret := (some .boolean)) (by decide) (Nat.le_of_ble_eq_true rfl) ?_
  intro p e s m below meth c A hx hb hml hr hts hown hlocks hin hA hP hD hS hE hsz ls hl
  have hown : s.vm.findClass RX6 = some m.cls := hown
  obtain ⟨H, hH0⟩ : ∃ H, H = s.heap := ⟨_, rfl⟩
  obtain ⟨locs, hlocs0⟩ : ∃ locs : List Loc, locs = [] := ⟨_, rfl⟩
  have hP : va_P D vwCl (WM q cy u ++ rest) H := by rw [hH0]; exact hP
  have hS : va_S A s.heap H locs := by rw [hH0, hlocs0]; exact hS
  have hl : lv_has ls 3 [(0, .ref (q 0)), (1, .int a1), (2, .int a2)] := hl
  suffices hgoal : W p l e rmX6_isAt s m ([.ref (q 0), .int a1, .int a2] : List Value).toArray below meth c H locs 0 0 (MQ below (kQi D A res (WM q cy u ++ rest)) ([.ref (q 0), .int a1, .int a2] : List Value).toArray s 0 0 A) (F0 m 0 ls []) by rw [hH0, hlocs0] at hgoal; exact hgoal
  clear hH0 hlocs0
  unfold mX6_isAt at hf
  refine lv_aload_n hx hb dX6_isAt_0 rfl (lv_at hl 0 rfl) ?_
  refine va_get (ci := 6) (v := .int (gI u 1)) (C := RX6) (T := TX6) (N := 26) hx hb hts inlX6 hown hE.1 hP 0 rfl rfl 7 (by decide) (hts _ wB288) (fun _ h9 => h9) rfl dX6_isAt_1 ?_
  refine lv_aload_n hx hb dX6_isAt_4 rfl (lv_at hl 0 rfl) ?_
  refine va_get (ci := 6) (v := .ref (q 1)) (C := RX6) (T := TX6) (N := 26) hx hb hts inlX6 hown hE.1 hP 0 rfl rfl 0 (by decide) (hts _ wB83) (fun _ h9 => h9) rfl dX6_isAt_5 ?_
  refine lv_iconst (v := 0) hx hb dX6_isAt_8 (by decide) ?_
  refine va_iald (f := (gR u 0)) hx hb hE.1 hP 1 0 rfl rfl (k_in (by decide)) dX6_isAt_9 ?_
  refine lv_icmp_ge (tgt := 40) hx hb dX6_isAt_10 (by decide) (fun c10 => ?_) (fun c10 => ?_)
  · have hf := o_ip c10 hf
    refine lv_iconst (v := 0) hx hb dX6_isAt_40 (by decide) ?_
    obtain rfl := o_ret hf
    exact k_zret (v := 0) hx hb hr hP hD hS rfl (Nat.zero_le _) (Nat.zero_le _) hlocks dX6_isAt_41
  · have hf := o_in c10 hf
    refine lv_aload_n hx hb dX6_isAt_13 rfl (lv_at hl 0 rfl) ?_
    refine va_get (ci := 6) (v := .ref (q 1)) (C := RX6) (T := TX6) (N := 26) hx hb hts inlX6 hown hE.1 hP 0 rfl rfl 0 (by decide) (hts _ wB83) (fun _ h9 => h9) rfl dX6_isAt_14 ?_
    refine lv_bipush (v := 80) hx hb dX6_isAt_17 (by decide) ?_
    refine lv_aload_n hx hb dX6_isAt_19 rfl (lv_at hl 0 rfl) ?_
    refine va_get (ci := 6) (v := .int (gI u 1)) (C := RX6) (T := TX6) (N := 26) hx hb hts inlX6 hown hE.1 hP 0 rfl rfl 7 (by decide) (hts _ wB288) (fun _ h9 => h9) rfl dX6_isAt_20 ?_
    refine lv_iadd hx hb dX6_isAt_23 ?_
    obtain ⟨hg24, hf⟩ := gd_s hf
    refine va_iald (f := (gR u 0)) hx hb hE.1 hP 1 0 rfl rfl hg24 dX6_isAt_24 ?_
    refine lv_i2l (v := (((gR u 0) ((80 + (gI u 1)).toNatClampNeg)).toInt64)) hx hb dX6_isAt_25 rfl ?_
    refine lv_iload_n hx hb dX6_isAt_26 rfl (lv_at hl 1 rfl) ?_
    refine lv_i2l (v := (a1.toInt64)) hx hb dX6_isAt_27 rfl ?_
    refine lv_iload_n hx hb dX6_isAt_28 rfl (lv_at hl 2 rfl) ?_
    refine lv_i2l (v := (a2.toInt64)) hx hb dX6_isAt_29 rfl ?_
    obtain ⟨r30, h30r, hf⟩ := o_bs hf
    refine k_goi (va_runS (As := [.long (((gR u 0) ((80 + (gI u 1)).toNatClampNeg)).toInt64), .long (a1.toInt64), .long (a2.toInt64)]) (rest := []) ⟨hx, hb, hml, hown, hts⟩ (zX6_in l D cy sa (WM q cy u ++ rest) H.size (((gR u 0) ((80 + (gI u 1)).toNatClampNeg)).toInt64) (a1.toInt64) (a2.toInt64)  r30  h30r) (va_cwS 3 hts (gB_S wB141 wB142 wB5 wB143) rfl rfl rfl (by decide +kernel) ⟨Nat.le_of_ble_eq_true rfl, Nat.le_of_ble_eq_true rfl⟩) ⟨kP.blind, k_pre hP hD hS hE hA⟩ rfl rfl hl.1 rfl (lv_room (Nat.le_of_ble_eq_true rfl)) dX6_isAt_30 ⟨Nat.zero_le _, Nat.zero_le _⟩) hD hS hA (fun H locs hP hD hS => ?_)
    refine lv_if_eq (tgt := 40) hx hb dX6_isAt_33 (by decide) (fun c33 => ?_) (fun c33 => ?_)
    · have hf := o_ip c33 hf
      refine lv_iconst (v := 0) hx hb dX6_isAt_40 (by decide) ?_
      obtain rfl := o_ret hf
      exact k_zret (v := 0) hx hb hr hP hD hS rfl (Nat.zero_le _) (Nat.zero_le _) hlocks dX6_isAt_41
    · have hf := o_in c33 hf
      refine lv_iconst (v := 1) hx hb dX6_isAt_36 (by decide) ?_
      refine lv_goto (tgt := 41) hx hb dX6_isAt_37 (by decide) ?_
      obtain rfl := o_ret hf
      exact k_zret (v := 1) hx hb hr hP hD hS rfl (Nat.zero_le _) (Nat.zero_le _) hlocks dX6_isAt_41
noncomputable def mX6_wordOf (a0 : Int64) : Option (Int32) :=
  if (lg_cmp a0 20579780) = 0 then
  (some 4)
  else
  (if (lg_cmp a0 299397) = 0 then
  (some 5)
  else
  (if (lg_cmp a0 546188) = 0 then
  (some 6)
  else
  (if (lg_cmp a0 3638900) = 0 then
  (some 7)
  else
  (some 1))))
abbrev rmX6_wordOf : Room := { frames := 0, cells := 0, slots := 0, locals := 0 }
set_option maxRecDepth 100000 in
set_option maxHeartbeats 4000000 in
theorem zX6_wordOf (l : Launch) (D : va_G) (cy : Nat → ClassId) (sa : Nat → Nat) (ws : va_W) (sz : Nat) (a0 : Int64) (res : Int32) (hf : mX6_wordOf a0 = some res) : kMi l yX6_wordOf (wsK yX6_wordOf cX6_wordOf 2 (some .int)) rmX6_wordOf D cy sa (ws) sz [.long a0] res (ws) 0 0 := by
  refine kM_of (Qc := fun A => kQi D A res (ws)) (cc := cX6_wordOf) (maxL := 2) (ret := (some .int)) (by decide) (Nat.le_of_ble_eq_true rfl) ?_
  intro p e s m below meth c A hx hb hml hr hts hown hlocks hin hA hP hD hS hE hsz ls hl
  have hown : s.vm.findClass RX6 = some m.cls := hown
  obtain ⟨H, hH0⟩ : ∃ H, H = s.heap := ⟨_, rfl⟩
  obtain ⟨locs, hlocs0⟩ : ∃ locs : List Loc, locs = [] := ⟨_, rfl⟩
  have hP : va_P D vwCl (ws) H := by rw [hH0]; exact hP
  have hS : va_S A s.heap H locs := by rw [hH0, hlocs0]; exact hS
  have hl : lv_has ls 2 [(0, .long a0)] := hl
  suffices hgoal : W p l e rmX6_wordOf s m ([.long a0] : List Value).toArray below meth c H locs 0 0 (MQ below (kQi D A res (ws)) ([.long a0] : List Value).toArray s 0 0 A) (F0 m 0 ls []) by rw [hH0, hlocs0] at hgoal; exact hgoal
  clear hH0 hlocs0
  unfold mX6_wordOf at hf
  refine lv_lload_n hx hb dX6_wordOf_0 rfl (lv_at hl 0 rfl) ?_
  refine lv_ldc2 (v := 20579780) hx hb hown (hts _ wB307) dX6_wordOf_1 ?_
  refine W.lcmp hx hb dX6_wordOf_4 ?_
  refine lv_if_ne (tgt := 12) hx hb dX6_wordOf_5 (by decide) (fun c5 => ?_) (fun c5 => ?_)
  · have hf := o_in c5 hf
    refine lv_lload_n hx hb dX6_wordOf_12 rfl (lv_at hl 0 rfl) ?_
    refine lv_ldc2 (v := 299397) hx hb hown (hts _ wB308) dX6_wordOf_13 ?_
    refine W.lcmp hx hb dX6_wordOf_16 ?_
    refine lv_if_ne (tgt := 24) hx hb dX6_wordOf_17 (by decide) (fun c17 => ?_) (fun c17 => ?_)
    · have hf := o_in c17 hf
      refine lv_lload_n hx hb dX6_wordOf_24 rfl (lv_at hl 0 rfl) ?_
      refine lv_ldc2 (v := 546188) hx hb hown (hts _ wB309) dX6_wordOf_25 ?_
      refine W.lcmp hx hb dX6_wordOf_28 ?_
      refine lv_if_ne (tgt := 37) hx hb dX6_wordOf_29 (by decide) (fun c29 => ?_) (fun c29 => ?_)
      · have hf := o_in c29 hf
        refine lv_lload_n hx hb dX6_wordOf_37 rfl (lv_at hl 0 rfl) ?_
        refine lv_ldc2 (v := 3638900) hx hb hown (hts _ wB310) dX6_wordOf_38 ?_
        refine W.lcmp hx hb dX6_wordOf_41 ?_
        refine lv_if_ne (tgt := 50) hx hb dX6_wordOf_42 (by decide) (fun c42 => ?_) (fun c42 => ?_)
        · have hf := o_in c42 hf
          refine lv_iconst (v := 1) hx hb dX6_wordOf_50 (by decide) ?_
          obtain rfl := o_ret hf
          exact k_iret hx hb hr hP hD hS (Nat.zero_le _) (Nat.zero_le _) hlocks dX6_wordOf_51
        · have hf := o_ip c42 hf
          refine lv_bipush (v := 7) hx hb dX6_wordOf_45 (by decide) ?_
          refine lv_goto (tgt := 51) hx hb dX6_wordOf_47 (by decide) ?_
          obtain rfl := o_ret hf
          exact k_iret hx hb hr hP hD hS (Nat.zero_le _) (Nat.zero_le _) hlocks dX6_wordOf_51
      · have hf := o_ip c29 hf
        refine lv_bipush (v := 6) hx hb dX6_wordOf_32 (by decide) ?_
        refine lv_goto (tgt := 51) hx hb dX6_wordOf_34 (by decide) ?_
        obtain rfl := o_ret hf
        exact k_iret hx hb hr hP hD hS (Nat.zero_le _) (Nat.zero_le _) hlocks dX6_wordOf_51
    · have hf := o_ip c17 hf
      refine lv_iconst (v := 5) hx hb dX6_wordOf_20 (by decide) ?_
      refine lv_goto (tgt := 51) hx hb dX6_wordOf_21 (by decide) ?_
      obtain rfl := o_ret hf
      exact k_iret hx hb hr hP hD hS (Nat.zero_le _) (Nat.zero_le _) hlocks dX6_wordOf_51
  · have hf := o_ip c5 hf
    refine lv_iconst (v := 4) hx hb dX6_wordOf_8 (by decide) ?_
    refine lv_goto (tgt := 51) hx hb dX6_wordOf_9 (by decide) ?_
    obtain rfl := o_ret hf
    exact k_iret hx hb hr hP hD hS (Nat.zero_le _) (Nat.zero_le _) hlocks dX6_wordOf_51
noncomputable def mX6_scans_s0  (s0 : KS) : Option ((KS) ⊕ (KS)) :=
  (mX6_isAt s0 32 32).bind fun r5 =>
  if r5 = 0 then
  (some (.inl s0))
  else
  (some (.inr (sI s0 1 ((gI s0 1) + 1))))
noncomputable def mX6_scans_s173  (s173 : KS) : Option ((KS) ⊕ (KS)) :=
  (mX6_isAt s173 48 57).bind fun r178 =>
  if r178 = 0 then
  (some (.inl s173))
  else
  (if 2 ≤ ((gI s173 1) - (gI s173 2)) then
  (some (.inr (sI (sI s173 1 ((gI s173 1) + 1)) 4 (gI s173 4))))
  else
  (gd (inb (80 + (gI s173 1)) 200) (some (.inr (sI (sI s173 1 ((gI s173 1) + 1)) 4 (((10 * (gI s173 4)) + ((gR s173 0) ((80 + (gI s173 1)).toNatClampNeg))) - 48))))))
noncomputable def mX6_scans_s64  (s64 : Int64 × KS) : Option (((Int64 × KS)) ⊕ (Int64 × KS)) :=
  (mX6_isAt s64.2 97 122).bind fun r69 =>
  if r69 = 0 then
  (some (.inl (s64.1, s64.2)))
  else
  (if ((gI s64.2 1) - (gI s64.2 2)) ≤ 5 then
  (gd (inb (80 + (gI s64.2 1)) 200) (some (.inr (((((32 * s64.1) + (((gR s64.2 0) ((80 + (gI s64.2 1)).toNatClampNeg)).toInt64)) - 97) + 1), (sI s64.2 1 ((gI s64.2 1) + 1))))))
  else
  (some (.inr (0, (sI s64.2 1 ((gI s64.2 1) + 1))))))
noncomputable def mX6_scans (u : KS) : Option (KS) :=
  (lpF mX6_scans_s0 u).bind fun e0 =>
  if (gI e0 1) = ((gR e0 0) ((0 : Int32).toNatClampNeg)) then
  (some (sI (sI e0 2 (gI e0 1)) 3 0))
  else
  ((mX6_isAt (sI e0 2 (gI e0 1)) 97 122).bind fun r56 =>
  if r56 = 0 then
  ((mX6_isAt (sI e0 2 (gI e0 1)) 48 57).bind fun r162 =>
  if r162 = 0 then
  ((mX6_isAt (sI e0 2 (gI e0 1)) 59 59).bind fun r273 =>
  if r273 = 0 then
  (some (sI (sI (sI e0 1 ((gI e0 1) + 1)) 2 (gI e0 1)) 3 1))
  else
  (some (sI (sI (sI e0 1 ((gI e0 1) + 1)) 2 (gI e0 1)) 3 3)))
  else
  ((lpF mX6_scans_s173 (sI (sI e0 2 (gI e0 1)) 4 0)).bind fun e173 =>
  if ((gI e173 1) - (gI e173 2)) ≤ 2 then
  (some (sI e173 3 2))
  else
  (some (sI e173 3 1))))
  else
  ((lpF mX6_scans_s64 (0, (sI e0 2 (gI e0 1)))).bind fun e64 =>
  if ((gI e64.2 1) - (gI e64.2 2)) ≤ 5 then
  ((mX6_wordOf e64.1).bind fun r150 =>
  some (sI e64.2 3 r150))
  else
  (some (sI e64.2 3 1))))
abbrev rmX6_scans : Room := { frames := 2, cells := 0, slots := 0, locals := 47 }
set_option maxRecDepth 100000 in
set_option maxHeartbeats 4000000 in
theorem zX6_scans (l : Launch) (D : va_G) (cy : Nat → ClassId) (sa : Nat → Nat) (q : Nat → Nat) (rest : va_W) (sz : Nat) (u : KS) (res : KS) (hf : mX6_scans u = some res) : kMv l yX6_scans (wsK yX6_scans cX6_scans 3 none) rmX6_scans D cy sa (WM q cy u ++ rest) sz [.ref (q 0)] (WM q cy res ++ rest) 0 0 := by
  refine kM_of (Qc := fun A => kQv D A (WM q cy res ++ rest)) (cc := cX6_scans) (maxL := 3) (ret := none) (by decide) (Nat.le_of_ble_eq_true rfl) ?_
  intro p e s m below meth c A hx hb hml hr hts hown hlocks hin hA hP hD hS hE hsz ls hl
  have hown : s.vm.findClass RX6 = some m.cls := hown
  obtain ⟨H, hH0⟩ : ∃ H, H = s.heap := ⟨_, rfl⟩
  obtain ⟨locs, hlocs0⟩ : ∃ locs : List Loc, locs = [] := ⟨_, rfl⟩
  have hP : va_P D vwCl (WM q cy u ++ rest) H := by rw [hH0]; exact hP
  have hS : va_S A s.heap H locs := by rw [hH0, hlocs0]; exact hS
  have hl : lv_has ls 3 [(0, .ref (q 0))] := hl
  suffices hgoal : W p l e rmX6_scans s m ([.ref (q 0)] : List Value).toArray below meth c H locs 0 0 (MQ below (kQv D A (WM q cy res ++ rest)) ([.ref (q 0)] : List Value).toArray s 0 0 A) (F0 m 0 ls []) by rw [hH0, hlocs0] at hgoal; exact hgoal
  clear hH0 hlocs0
  unfold mX6_scans at hf
  have L0 : ∀ (n0v : Nat) (s0 : KS) (e0 : KS), lpO mX6_scans_s0 n0v s0 = some e0 → ∀ (H : Heap) (locs : List Loc) (ls : Array Slot), va_P D vwCl (WM q cy s0 ++ rest) H → va_D A (WM q cy s0 ++ rest) → va_S A s.heap H locs → lv_has ls 3 [(0, .ref (q 0))] → (∀ (H : Heap) (locs : List Loc) (ls : Array Slot), va_P D vwCl (WM q cy e0 ++ rest) H → va_D A (WM q cy e0 ++ rest) → va_S A s.heap H locs → lv_has ls 3 [(0, .ref (q 0))] → W p l e rmX6_scans s m ([.ref (q 0)] : List Value).toArray below meth c H locs 0 0 (MQ below (kQv D A (WM q cy res ++ rest)) ([.ref (q 0)] : List Value).toArray s 0 0 A) (F0 m 24 ls [])) → W p l e rmX6_scans s m ([.ref (q 0)] : List Value).toArray below meth c H locs 0 0 (MQ below (kQv D A (WM q cy res ++ rest)) ([.ref (q 0)] : List Value).toArray s 0 0 A) (F0 m 0 ls []) := by
    intro n0v
    induction n0v with
    | zero => intro s0 e0 h; exact (lpO_z h).elim
    | succ n0v ih0 =>
      intro s0 e0 h0z H locs ls hP hD hS hl K0_0
      obtain ⟨x0, hf, h0z⟩ := lpO_s h0z
      unfold mX6_scans_s0 at hf
      refine lv_aload_n hx hb dX6_scans_0 rfl (lv_at hl 0 rfl) ?_
      refine lv_bipush (v := 32) hx hb dX6_scans_1 (by decide) ?_
      refine lv_bipush (v := 32) hx hb dX6_scans_3 (by decide) ?_
      obtain ⟨r5, h5r, hf⟩ := o_bs hf
      refine k_goi (va_runV (As := [.int 32, .int 32]) (rest := []) ⟨hx, hb, hml, hown, hts⟩ (zX6_isAt l D cy sa q rest H.size s0 32 32 r5 h5r) (cwV 2 hts (gB_V wB300 wB301 wB302 wB5 wB303) rfl rfl rfl (by decide +kernel) ⟨Nat.le_of_ble_eq_true rfl, Nat.le_of_ble_eq_true rfl⟩) ⟨kP.blind, k_recv hE hP (ci := 6) (q0 := 0) rfl rfl, k_pre hP hD hS hE hA⟩ rfl rfl hl.1 rfl (lv_room (Nat.le_of_ble_eq_true rfl)) dX6_scans_5 ⟨Nat.zero_le _, Nat.zero_le _⟩) hD hS hA (fun H locs hP hD hS => ?_)
      refine lv_if_eq (tgt := 24) hx hb dX6_scans_8 (by decide) (fun c8 => ?_) (fun c8 => ?_)
      · have hf := o_ip c8 hf
        obtain rfl := o_ret hf
        obtain rfl := lpK_l h0z
        exact K0_0 _ _ _ hP hD hS (lv_sub hl [0] rfl)
      · have hf := o_in c8 hf
        refine lv_aload_n hx hb dX6_scans_11 rfl (lv_at hl 0 rfl) ?_
        refine lv_dup hx hb dX6_scans_12 rfl ?_
        refine va_get (ci := 6) (v := .int (gI s0 1)) (C := RX6) (T := TX6) (N := 26) hx hb hts inlX6 hown hE.1 hP 0 rfl rfl 7 (by decide) (hts _ wB288) (fun _ h9 => h9) rfl dX6_scans_13 ?_
        refine lv_iconst (v := 1) hx hb dX6_scans_16 (by decide) ?_
        refine lv_iadd hx hb dX6_scans_17 ?_
        refine va_put (ci := 6) (v := .int ((gI s0 1) + 1)) (ty := .int) (C := RX6) (T := TX6) (N := 26) hx hb hts inlX6 tyX6 tyX6_ok nmX6 hown hE.1 hP hD hS 0 rfl rfl 7 (by decide) (hts _ wB288) (fun _ h9 => h9) rfl (by decide +kernel) rfl rfl (Nat.le_of_ble_eq_true rfl) dX6_scans_18 (fun H locs hP hD hS => ?_)
        have hP : va_P D vwCl (WM q cy (sI s0 1 ((gI s0 1) + 1)) ++ rest) H := hP
        have hD : va_D A (WM q cy (sI s0 1 ((gI s0 1) + 1)) ++ rest) := hD
        refine lv_goto (tgt := 0) hx hb dX6_scans_21 (by decide) ?_
        obtain rfl := o_ret hf
        exact ih0 _ _ (lpK_r h0z) _ _ _ hP hD hS (lv_sub hl [0] rfl) K0_0
  obtain ⟨e0, h0q, hf⟩ := o_bs hf
  obtain ⟨n0v, h0q⟩ := lpF_ex h0q
  refine L0 n0v _ e0 h0q _ _ _ hP hD hS (lv_sub hl [0] rfl) ?_
  intro H locs ls hP hD hS hl
  refine lv_aload_n hx hb dX6_scans_24 rfl (lv_at hl 0 rfl) ?_
  refine lv_aload_n hx hb dX6_scans_25 rfl (lv_at hl 0 rfl) ?_
  refine va_get (ci := 6) (v := .int (gI e0 1)) (C := RX6) (T := TX6) (N := 26) hx hb hts inlX6 hown hE.1 hP 0 rfl rfl 7 (by decide) (hts _ wB288) (fun _ h9 => h9) rfl dX6_scans_26 ?_
  refine va_put (ci := 6) (v := .int (gI e0 1)) (ty := .int) (C := RX6) (T := TX6) (N := 26) hx hb hts inlX6 tyX6 tyX6_ok nmX6 hown hE.1 hP hD hS 0 rfl rfl 8 (by decide) (hts _ wB283) (fun _ h9 => h9) rfl (by decide +kernel) rfl rfl (Nat.le_of_ble_eq_true rfl) dX6_scans_29 (fun H locs hP hD hS => ?_)
  have hP : va_P D vwCl (WM q cy (sI e0 2 (gI e0 1)) ++ rest) H := hP
  have hD : va_D A (WM q cy (sI e0 2 (gI e0 1)) ++ rest) := hD
  refine lv_aload_n hx hb dX6_scans_32 rfl (lv_at hl 0 rfl) ?_
  refine va_get (ci := 6) (v := .int (gI e0 1)) (C := RX6) (T := TX6) (N := 26) hx hb hts inlX6 hown hE.1 hP 0 rfl rfl 7 (by decide) (hts _ wB288) (fun _ h9 => h9) rfl dX6_scans_33 ?_
  refine lv_aload_n hx hb dX6_scans_36 rfl (lv_at hl 0 rfl) ?_
  refine va_get (ci := 6) (v := .ref (q 1)) (C := RX6) (T := TX6) (N := 26) hx hb hts inlX6 hown hE.1 hP 0 rfl rfl 0 (by decide) (hts _ wB83) (fun _ h9 => h9) rfl dX6_scans_37 ?_
  refine lv_iconst (v := 0) hx hb dX6_scans_40 (by decide) ?_
  refine va_iald (f := (gR e0 0)) hx hb hE.1 hP 1 0 rfl rfl (k_in (by decide)) dX6_scans_41 ?_
  refine lv_icmp_ne (tgt := 51) hx hb dX6_scans_42 (by decide) (fun c42 => ?_) (fun c42 => ?_)
  · have hf := o_in c42 hf
    refine lv_aload_n hx hb dX6_scans_51 rfl (lv_at hl 0 rfl) ?_
    refine lv_bipush (v := 97) hx hb dX6_scans_52 (by decide) ?_
    refine lv_bipush (v := 122) hx hb dX6_scans_54 (by decide) ?_
    obtain ⟨r56, h56r, hf⟩ := o_bs hf
    refine k_goi (va_runV (As := [.int 97, .int 122]) (rest := []) ⟨hx, hb, hml, hown, hts⟩ (zX6_isAt l D cy sa q rest H.size (sI e0 2 (gI e0 1)) 97 122 r56 h56r) (cwV 2 hts (gB_V wB300 wB301 wB302 wB5 wB303) rfl rfl rfl (by decide +kernel) ⟨Nat.le_of_ble_eq_true rfl, Nat.le_of_ble_eq_true rfl⟩) ⟨kP.blind, k_recv hE hP (ci := 6) (q0 := 0) rfl rfl, k_pre hP hD hS hE hA⟩ rfl rfl hl.1 rfl (lv_room (Nat.le_of_ble_eq_true rfl)) dX6_scans_56 ⟨Nat.zero_le _, Nat.zero_le _⟩) hD hS hA (fun H locs hP hD hS => ?_)
    refine lv_if_eq (tgt := 157) hx hb dX6_scans_59 (by decide) (fun c59 => ?_) (fun c59 => ?_)
    · have hf := o_ip c59 hf
      refine lv_aload_n hx hb dX6_scans_157 rfl (lv_at hl 0 rfl) ?_
      refine lv_bipush (v := 48) hx hb dX6_scans_158 (by decide) ?_
      refine lv_bipush (v := 57) hx hb dX6_scans_160 (by decide) ?_
      obtain ⟨r162, h162r, hf⟩ := o_bs hf
      refine k_goi (va_runV (As := [.int 48, .int 57]) (rest := []) ⟨hx, hb, hml, hown, hts⟩ (zX6_isAt l D cy sa q rest H.size (sI e0 2 (gI e0 1)) 48 57 r162 h162r) (cwV 2 hts (gB_V wB300 wB301 wB302 wB5 wB303) rfl rfl rfl (by decide +kernel) ⟨Nat.le_of_ble_eq_true rfl, Nat.le_of_ble_eq_true rfl⟩) ⟨kP.blind, k_recv hE hP (ci := 6) (q0 := 0) rfl rfl, k_pre hP hD hS hE hA⟩ rfl rfl hl.1 rfl (lv_room (Nat.le_of_ble_eq_true rfl)) dX6_scans_162 ⟨Nat.zero_le _, Nat.zero_le _⟩) hD hS hA (fun H locs hP hD hS => ?_)
      refine lv_if_eq (tgt := 267) hx hb dX6_scans_165 (by decide) (fun c165 => ?_) (fun c165 => ?_)
      · have hf := o_ip c165 hf
        refine lv_aload_n hx hb dX6_scans_267 rfl (lv_at hl 0 rfl) ?_
        refine lv_aload_n hx hb dX6_scans_268 rfl (lv_at hl 0 rfl) ?_
        refine lv_bipush (v := 59) hx hb dX6_scans_269 (by decide) ?_
        refine lv_bipush (v := 59) hx hb dX6_scans_271 (by decide) ?_
        obtain ⟨r273, h273r, hf⟩ := o_bs hf
        refine k_goi (va_runV (As := [.int 59, .int 59]) (rest := [.ref (q 0)]) ⟨hx, hb, hml, hown, hts⟩ (zX6_isAt l D cy sa q rest H.size (sI e0 2 (gI e0 1)) 59 59 r273 h273r) (cwV 2 hts (gB_V wB300 wB301 wB302 wB5 wB303) rfl rfl rfl (by decide +kernel) ⟨Nat.le_of_ble_eq_true rfl, Nat.le_of_ble_eq_true rfl⟩) ⟨kP.blind, k_recv hE hP (ci := 6) (q0 := 0) rfl rfl, k_pre hP hD hS hE hA⟩ rfl rfl hl.1 rfl (lv_room (Nat.le_of_ble_eq_true rfl)) dX6_scans_273 ⟨Nat.zero_le _, Nat.zero_le _⟩) hD hS hA (fun H locs hP hD hS => ?_)
        refine lv_if_eq (tgt := 283) hx hb dX6_scans_276 (by decide) (fun c276 => ?_) (fun c276 => ?_)
        · have hf := o_ip c276 hf
          refine lv_iconst (v := 1) hx hb dX6_scans_283 (by decide) ?_
          refine va_put (ci := 6) (v := .int 1) (ty := .int) (C := RX6) (T := TX6) (N := 26) hx hb hts inlX6 tyX6 tyX6_ok nmX6 hown hE.1 hP hD hS 0 rfl rfl 9 (by decide) (hts _ wB290) (fun _ h9 => h9) rfl (by decide +kernel) rfl rfl (Nat.le_of_ble_eq_true rfl) dX6_scans_284 (fun H locs hP hD hS => ?_)
          have hQ : ∀ (xb : KS) (x0 : Int32) (xn : Int32), (WM q cy (sI xb 2 x0) ++ rest).set 0 (q 0, .inr (6, [.ref (q 1), .ref (q 2), .ref (q 3), .ref (q 4), .int (gI (sI xb 2 x0) 0), .ref (q 5), .ref (q 6), .int (gI (sI xb 2 x0) 1), .int (gI (sI xb 2 x0) 2), .int (gI (sI xb 2 x0) 3), .int (gI (sI xb 2 x0) 4), .ref (q 7), .ref (q 8), .ref (q 9), .int (gI (sI xb 2 x0) 5), .ref (q 10), .int (gI (sI xb 2 x0) 6), .int (gI (sI xb 2 x0) 7), .int (gI (sI xb 2 x0) 8), .int (gI (sI xb 2 x0) 9), .ref (q 11), .long (gL (sI xb 2 x0) 0), .ref (q 12), .ref (q 13), .ref (q 14), .int (gI (sI xb 2 x0) 10)].set 9 (.int xn))) = WM q cy (sI (sI xb 2 x0) 3 xn) ++ rest := fun _ _ _ => rfl
          have hP : va_P D vwCl (WM q cy (sI (sI e0 2 (gI e0 1)) 3 1) ++ rest) H := k_wP (hQ e0 (gI e0 1) 1) hP
          have hD : va_D A (WM q cy (sI (sI e0 2 (gI e0 1)) 3 1) ++ rest) := k_wD (hQ e0 (gI e0 1) 1) hD
          clear hQ
          refine lv_aload_n hx hb dX6_scans_287 rfl (lv_at hl 0 rfl) ?_
          refine lv_dup hx hb dX6_scans_288 rfl ?_
          refine va_get (ci := 6) (v := .int (gI e0 1)) (C := RX6) (T := TX6) (N := 26) hx hb hts inlX6 hown hE.1 hP 0 rfl rfl 7 (by decide) (hts _ wB288) (fun _ h9 => h9) rfl dX6_scans_289 ?_
          refine lv_iconst (v := 1) hx hb dX6_scans_292 (by decide) ?_
          refine lv_iadd hx hb dX6_scans_293 ?_
          refine va_put (ci := 6) (v := .int ((gI e0 1) + 1)) (ty := .int) (C := RX6) (T := TX6) (N := 26) hx hb hts inlX6 tyX6 tyX6_ok nmX6 hown hE.1 hP hD hS 0 rfl rfl 7 (by decide) (hts _ wB288) (fun _ h9 => h9) rfl (by decide +kernel) rfl rfl (Nat.le_of_ble_eq_true rfl) dX6_scans_294 (fun H locs hP hD hS => ?_)
          have hQ : ∀ (xb : KS) (x0 : Int32) (x1 : Int32) (xn : Int32), (WM q cy (sI (sI xb 2 x0) 3 x1) ++ rest).set 0 (q 0, .inr (6, [.ref (q 1), .ref (q 2), .ref (q 3), .ref (q 4), .int (gI (sI (sI xb 2 x0) 3 x1) 0), .ref (q 5), .ref (q 6), .int (gI (sI (sI xb 2 x0) 3 x1) 1), .int (gI (sI (sI xb 2 x0) 3 x1) 2), .int (gI (sI (sI xb 2 x0) 3 x1) 3), .int (gI (sI (sI xb 2 x0) 3 x1) 4), .ref (q 7), .ref (q 8), .ref (q 9), .int (gI (sI (sI xb 2 x0) 3 x1) 5), .ref (q 10), .int (gI (sI (sI xb 2 x0) 3 x1) 6), .int (gI (sI (sI xb 2 x0) 3 x1) 7), .int (gI (sI (sI xb 2 x0) 3 x1) 8), .int (gI (sI (sI xb 2 x0) 3 x1) 9), .ref (q 11), .long (gL (sI (sI xb 2 x0) 3 x1) 0), .ref (q 12), .ref (q 13), .ref (q 14), .int (gI (sI (sI xb 2 x0) 3 x1) 10)].set 7 (.int xn))) = WM q cy (sI (sI (sI xb 1 xn) 2 x0) 3 x1) ++ rest := fun _ _ _ _ => rfl
          have hP : va_P D vwCl (WM q cy (sI (sI (sI e0 1 ((gI e0 1) + 1)) 2 (gI e0 1)) 3 1) ++ rest) H := k_wP (hQ e0 (gI e0 1) 1 ((gI e0 1) + 1)) hP
          have hD : va_D A (WM q cy (sI (sI (sI e0 1 ((gI e0 1) + 1)) 2 (gI e0 1)) 3 1) ++ rest) := k_wD (hQ e0 (gI e0 1) 1 ((gI e0 1) + 1)) hD
          clear hQ
          obtain rfl := o_ret hf
          exact k_vret hx hb hr hP hD hS (Nat.zero_le _) (Nat.zero_le _) hlocks dX6_scans_297
        · have hf := o_in c276 hf
          refine lv_iconst (v := 3) hx hb dX6_scans_279 (by decide) ?_
          refine lv_goto (tgt := 284) hx hb dX6_scans_280 (by decide) ?_
          refine va_put (ci := 6) (v := .int 3) (ty := .int) (C := RX6) (T := TX6) (N := 26) hx hb hts inlX6 tyX6 tyX6_ok nmX6 hown hE.1 hP hD hS 0 rfl rfl 9 (by decide) (hts _ wB290) (fun _ h9 => h9) rfl (by decide +kernel) rfl rfl (Nat.le_of_ble_eq_true rfl) dX6_scans_284 (fun H locs hP hD hS => ?_)
          have hQ : ∀ (xb : KS) (x0 : Int32) (xn : Int32), (WM q cy (sI xb 2 x0) ++ rest).set 0 (q 0, .inr (6, [.ref (q 1), .ref (q 2), .ref (q 3), .ref (q 4), .int (gI (sI xb 2 x0) 0), .ref (q 5), .ref (q 6), .int (gI (sI xb 2 x0) 1), .int (gI (sI xb 2 x0) 2), .int (gI (sI xb 2 x0) 3), .int (gI (sI xb 2 x0) 4), .ref (q 7), .ref (q 8), .ref (q 9), .int (gI (sI xb 2 x0) 5), .ref (q 10), .int (gI (sI xb 2 x0) 6), .int (gI (sI xb 2 x0) 7), .int (gI (sI xb 2 x0) 8), .int (gI (sI xb 2 x0) 9), .ref (q 11), .long (gL (sI xb 2 x0) 0), .ref (q 12), .ref (q 13), .ref (q 14), .int (gI (sI xb 2 x0) 10)].set 9 (.int xn))) = WM q cy (sI (sI xb 2 x0) 3 xn) ++ rest := fun _ _ _ => rfl
          have hP : va_P D vwCl (WM q cy (sI (sI e0 2 (gI e0 1)) 3 3) ++ rest) H := k_wP (hQ e0 (gI e0 1) 3) hP
          have hD : va_D A (WM q cy (sI (sI e0 2 (gI e0 1)) 3 3) ++ rest) := k_wD (hQ e0 (gI e0 1) 3) hD
          clear hQ
          refine lv_aload_n hx hb dX6_scans_287 rfl (lv_at hl 0 rfl) ?_
          refine lv_dup hx hb dX6_scans_288 rfl ?_
          refine va_get (ci := 6) (v := .int (gI e0 1)) (C := RX6) (T := TX6) (N := 26) hx hb hts inlX6 hown hE.1 hP 0 rfl rfl 7 (by decide) (hts _ wB288) (fun _ h9 => h9) rfl dX6_scans_289 ?_
          refine lv_iconst (v := 1) hx hb dX6_scans_292 (by decide) ?_
          refine lv_iadd hx hb dX6_scans_293 ?_
          refine va_put (ci := 6) (v := .int ((gI e0 1) + 1)) (ty := .int) (C := RX6) (T := TX6) (N := 26) hx hb hts inlX6 tyX6 tyX6_ok nmX6 hown hE.1 hP hD hS 0 rfl rfl 7 (by decide) (hts _ wB288) (fun _ h9 => h9) rfl (by decide +kernel) rfl rfl (Nat.le_of_ble_eq_true rfl) dX6_scans_294 (fun H locs hP hD hS => ?_)
          have hQ : ∀ (xb : KS) (x0 : Int32) (x1 : Int32) (xn : Int32), (WM q cy (sI (sI xb 2 x0) 3 x1) ++ rest).set 0 (q 0, .inr (6, [.ref (q 1), .ref (q 2), .ref (q 3), .ref (q 4), .int (gI (sI (sI xb 2 x0) 3 x1) 0), .ref (q 5), .ref (q 6), .int (gI (sI (sI xb 2 x0) 3 x1) 1), .int (gI (sI (sI xb 2 x0) 3 x1) 2), .int (gI (sI (sI xb 2 x0) 3 x1) 3), .int (gI (sI (sI xb 2 x0) 3 x1) 4), .ref (q 7), .ref (q 8), .ref (q 9), .int (gI (sI (sI xb 2 x0) 3 x1) 5), .ref (q 10), .int (gI (sI (sI xb 2 x0) 3 x1) 6), .int (gI (sI (sI xb 2 x0) 3 x1) 7), .int (gI (sI (sI xb 2 x0) 3 x1) 8), .int (gI (sI (sI xb 2 x0) 3 x1) 9), .ref (q 11), .long (gL (sI (sI xb 2 x0) 3 x1) 0), .ref (q 12), .ref (q 13), .ref (q 14), .int (gI (sI (sI xb 2 x0) 3 x1) 10)].set 7 (.int xn))) = WM q cy (sI (sI (sI xb 1 xn) 2 x0) 3 x1) ++ rest := fun _ _ _ _ => rfl
          have hP : va_P D vwCl (WM q cy (sI (sI (sI e0 1 ((gI e0 1) + 1)) 2 (gI e0 1)) 3 3) ++ rest) H := k_wP (hQ e0 (gI e0 1) 3 ((gI e0 1) + 1)) hP
          have hD : va_D A (WM q cy (sI (sI (sI e0 1 ((gI e0 1) + 1)) 2 (gI e0 1)) 3 3) ++ rest) := k_wD (hQ e0 (gI e0 1) 3 ((gI e0 1) + 1)) hD
          clear hQ
          obtain rfl := o_ret hf
          exact k_vret hx hb hr hP hD hS (Nat.zero_le _) (Nat.zero_le _) hlocks dX6_scans_297
      · have hf := o_in c165 hf
        refine lv_aload_n hx hb dX6_scans_168 rfl (lv_at hl 0 rfl) ?_
        refine lv_iconst (v := 0) hx hb dX6_scans_169 (by decide) ?_
        refine va_put (ci := 6) (v := .int 0) (ty := .int) (C := RX6) (T := TX6) (N := 26) hx hb hts inlX6 tyX6 tyX6_ok nmX6 hown hE.1 hP hD hS 0 rfl rfl 10 (by decide) (hts _ wB291) (fun _ h9 => h9) rfl (by decide +kernel) rfl rfl (Nat.le_of_ble_eq_true rfl) dX6_scans_170 (fun H locs hP hD hS => ?_)
        have hQ : ∀ (xb : KS) (x0 : Int32) (xn : Int32), (WM q cy (sI xb 2 x0) ++ rest).set 0 (q 0, .inr (6, [.ref (q 1), .ref (q 2), .ref (q 3), .ref (q 4), .int (gI (sI xb 2 x0) 0), .ref (q 5), .ref (q 6), .int (gI (sI xb 2 x0) 1), .int (gI (sI xb 2 x0) 2), .int (gI (sI xb 2 x0) 3), .int (gI (sI xb 2 x0) 4), .ref (q 7), .ref (q 8), .ref (q 9), .int (gI (sI xb 2 x0) 5), .ref (q 10), .int (gI (sI xb 2 x0) 6), .int (gI (sI xb 2 x0) 7), .int (gI (sI xb 2 x0) 8), .int (gI (sI xb 2 x0) 9), .ref (q 11), .long (gL (sI xb 2 x0) 0), .ref (q 12), .ref (q 13), .ref (q 14), .int (gI (sI xb 2 x0) 10)].set 10 (.int xn))) = WM q cy (sI (sI xb 2 x0) 4 xn) ++ rest := fun _ _ _ => rfl
        have hP : va_P D vwCl (WM q cy (sI (sI e0 2 (gI e0 1)) 4 0) ++ rest) H := k_wP (hQ e0 (gI e0 1) 0) hP
        have hD : va_D A (WM q cy (sI (sI e0 2 (gI e0 1)) 4 0) ++ rest) := k_wD (hQ e0 (gI e0 1) 0) hD
        clear hQ
        have L173 : ∀ (n173v : Nat) (s173 : KS) (e173 : KS), lpO mX6_scans_s173 n173v s173 = some e173 → ∀ (H : Heap) (locs : List Loc) (ls : Array Slot), va_P D vwCl (WM q cy s173 ++ rest) H → va_D A (WM q cy s173 ++ rest) → va_S A s.heap H locs → lv_has ls 3 [(0, .ref (q 0))] → (∀ (H : Heap) (locs : List Loc) (ls : Array Slot), va_P D vwCl (WM q cy e173 ++ rest) H → va_D A (WM q cy e173 ++ rest) → va_S A s.heap H locs → lv_has ls 3 [(0, .ref (q 0))] → W p l e rmX6_scans s m ([.ref (q 0)] : List Value).toArray below meth c H locs 0 0 (MQ below (kQv D A (WM q cy res ++ rest)) ([.ref (q 0)] : List Value).toArray s 0 0 A) (F0 m 244 ls [])) → W p l e rmX6_scans s m ([.ref (q 0)] : List Value).toArray below meth c H locs 0 0 (MQ below (kQv D A (WM q cy res ++ rest)) ([.ref (q 0)] : List Value).toArray s 0 0 A) (F0 m 173 ls []) := by
          intro n173v
          induction n173v with
          | zero => intro s173 e173 h; exact (lpO_z h).elim
          | succ n173v ih173 =>
            intro s173 e173 h173z H locs ls hP hD hS hl K173_0
            obtain ⟨x173, hf, h173z⟩ := lpO_s h173z
            unfold mX6_scans_s173 at hf
            refine lv_aload_n hx hb dX6_scans_173 rfl (lv_at hl 0 rfl) ?_
            refine lv_bipush (v := 48) hx hb dX6_scans_174 (by decide) ?_
            refine lv_bipush (v := 57) hx hb dX6_scans_176 (by decide) ?_
            obtain ⟨r178, h178r, hf⟩ := o_bs hf
            refine k_goi (va_runV (As := [.int 48, .int 57]) (rest := []) ⟨hx, hb, hml, hown, hts⟩ (zX6_isAt l D cy sa q rest H.size s173 48 57 r178 h178r) (cwV 2 hts (gB_V wB300 wB301 wB302 wB5 wB303) rfl rfl rfl (by decide +kernel) ⟨Nat.le_of_ble_eq_true rfl, Nat.le_of_ble_eq_true rfl⟩) ⟨kP.blind, k_recv hE hP (ci := 6) (q0 := 0) rfl rfl, k_pre hP hD hS hE hA⟩ rfl rfl hl.1 rfl (lv_room (Nat.le_of_ble_eq_true rfl)) dX6_scans_178 ⟨Nat.zero_le _, Nat.zero_le _⟩) hD hS hA (fun H locs hP hD hS => ?_)
            refine lv_if_eq (tgt := 244) hx hb dX6_scans_181 (by decide) (fun c181 => ?_) (fun c181 => ?_)
            · have hf := o_ip c181 hf
              obtain rfl := o_ret hf
              obtain rfl := lpK_l h173z
              exact K173_0 _ _ _ hP hD hS (lv_sub hl [0] rfl)
            · have hf := o_in c181 hf
              refine lv_aload_n hx hb dX6_scans_184 rfl (lv_at hl 0 rfl) ?_
              refine lv_aload_n hx hb dX6_scans_185 rfl (lv_at hl 0 rfl) ?_
              refine va_get (ci := 6) (v := .int (gI s173 1)) (C := RX6) (T := TX6) (N := 26) hx hb hts inlX6 hown hE.1 hP 0 rfl rfl 7 (by decide) (hts _ wB288) (fun _ h9 => h9) rfl dX6_scans_186 ?_
              refine lv_aload_n hx hb dX6_scans_189 rfl (lv_at hl 0 rfl) ?_
              refine va_get (ci := 6) (v := .int (gI s173 2)) (C := RX6) (T := TX6) (N := 26) hx hb hts inlX6 hown hE.1 hP 0 rfl rfl 8 (by decide) (hts _ wB283) (fun _ h9 => h9) rfl dX6_scans_190 ?_
              refine lv_isub hx hb dX6_scans_193 ?_
              refine lv_iconst (v := 2) hx hb dX6_scans_194 (by decide) ?_
              refine lv_icmp_ge (tgt := 224) hx hb dX6_scans_195 (by decide) (fun c195 => ?_) (fun c195 => ?_)
              · have hf := o_ip c195 hf
                refine lv_aload_n hx hb dX6_scans_224 rfl (lv_at hl 0 rfl) ?_
                refine va_get (ci := 6) (v := .int (gI s173 4)) (C := RX6) (T := TX6) (N := 26) hx hb hts inlX6 hown hE.1 hP 0 rfl rfl 10 (by decide) (hts _ wB291) (fun _ h9 => h9) rfl dX6_scans_225 ?_
                refine va_put (ci := 6) (v := .int (gI s173 4)) (ty := .int) (C := RX6) (T := TX6) (N := 26) hx hb hts inlX6 tyX6 tyX6_ok nmX6 hown hE.1 hP hD hS 0 rfl rfl 10 (by decide) (hts _ wB291) (fun _ h9 => h9) rfl (by decide +kernel) rfl rfl (Nat.le_of_ble_eq_true rfl) dX6_scans_228 (fun H locs hP hD hS => ?_)
                have hP : va_P D vwCl (WM q cy (sI s173 4 (gI s173 4)) ++ rest) H := hP
                have hD : va_D A (WM q cy (sI s173 4 (gI s173 4)) ++ rest) := hD
                refine lv_aload_n hx hb dX6_scans_231 rfl (lv_at hl 0 rfl) ?_
                refine lv_dup hx hb dX6_scans_232 rfl ?_
                refine va_get (ci := 6) (v := .int (gI s173 1)) (C := RX6) (T := TX6) (N := 26) hx hb hts inlX6 hown hE.1 hP 0 rfl rfl 7 (by decide) (hts _ wB288) (fun _ h9 => h9) rfl dX6_scans_233 ?_
                refine lv_iconst (v := 1) hx hb dX6_scans_236 (by decide) ?_
                refine lv_iadd hx hb dX6_scans_237 ?_
                refine va_put (ci := 6) (v := .int ((gI s173 1) + 1)) (ty := .int) (C := RX6) (T := TX6) (N := 26) hx hb hts inlX6 tyX6 tyX6_ok nmX6 hown hE.1 hP hD hS 0 rfl rfl 7 (by decide) (hts _ wB288) (fun _ h9 => h9) rfl (by decide +kernel) rfl rfl (Nat.le_of_ble_eq_true rfl) dX6_scans_238 (fun H locs hP hD hS => ?_)
                have hQ : ∀ (xb : KS) (x0 : Int32) (xn : Int32), (WM q cy (sI xb 4 x0) ++ rest).set 0 (q 0, .inr (6, [.ref (q 1), .ref (q 2), .ref (q 3), .ref (q 4), .int (gI (sI xb 4 x0) 0), .ref (q 5), .ref (q 6), .int (gI (sI xb 4 x0) 1), .int (gI (sI xb 4 x0) 2), .int (gI (sI xb 4 x0) 3), .int (gI (sI xb 4 x0) 4), .ref (q 7), .ref (q 8), .ref (q 9), .int (gI (sI xb 4 x0) 5), .ref (q 10), .int (gI (sI xb 4 x0) 6), .int (gI (sI xb 4 x0) 7), .int (gI (sI xb 4 x0) 8), .int (gI (sI xb 4 x0) 9), .ref (q 11), .long (gL (sI xb 4 x0) 0), .ref (q 12), .ref (q 13), .ref (q 14), .int (gI (sI xb 4 x0) 10)].set 7 (.int xn))) = WM q cy (sI (sI xb 1 xn) 4 x0) ++ rest := fun _ _ _ => rfl
                have hP : va_P D vwCl (WM q cy (sI (sI s173 1 ((gI s173 1) + 1)) 4 (gI s173 4)) ++ rest) H := k_wP (hQ s173 (gI s173 4) ((gI s173 1) + 1)) hP
                have hD : va_D A (WM q cy (sI (sI s173 1 ((gI s173 1) + 1)) 4 (gI s173 4)) ++ rest) := k_wD (hQ s173 (gI s173 4) ((gI s173 1) + 1)) hD
                clear hQ
                refine lv_goto (tgt := 173) hx hb dX6_scans_241 (by decide) ?_
                obtain rfl := o_ret hf
                exact ih173 _ _ (lpK_r h173z) _ _ _ hP hD hS (lv_sub hl [0] rfl) K173_0
              · have hf := o_in c195 hf
                refine lv_bipush (v := 10) hx hb dX6_scans_198 (by decide) ?_
                refine lv_aload_n hx hb dX6_scans_200 rfl (lv_at hl 0 rfl) ?_
                refine va_get (ci := 6) (v := .int (gI s173 4)) (C := RX6) (T := TX6) (N := 26) hx hb hts inlX6 hown hE.1 hP 0 rfl rfl 10 (by decide) (hts _ wB291) (fun _ h9 => h9) rfl dX6_scans_201 ?_
                refine lv_imul hx hb dX6_scans_204 ?_
                refine lv_aload_n hx hb dX6_scans_205 rfl (lv_at hl 0 rfl) ?_
                refine va_get (ci := 6) (v := .ref (q 1)) (C := RX6) (T := TX6) (N := 26) hx hb hts inlX6 hown hE.1 hP 0 rfl rfl 0 (by decide) (hts _ wB83) (fun _ h9 => h9) rfl dX6_scans_206 ?_
                refine lv_bipush (v := 80) hx hb dX6_scans_209 (by decide) ?_
                refine lv_aload_n hx hb dX6_scans_211 rfl (lv_at hl 0 rfl) ?_
                refine va_get (ci := 6) (v := .int (gI s173 1)) (C := RX6) (T := TX6) (N := 26) hx hb hts inlX6 hown hE.1 hP 0 rfl rfl 7 (by decide) (hts _ wB288) (fun _ h9 => h9) rfl dX6_scans_212 ?_
                refine lv_iadd hx hb dX6_scans_215 ?_
                obtain ⟨hg216, hf⟩ := gd_s hf
                refine va_iald (f := (gR s173 0)) hx hb hE.1 hP 1 0 rfl rfl hg216 dX6_scans_216 ?_
                refine lv_iadd hx hb dX6_scans_217 ?_
                refine lv_bipush (v := 48) hx hb dX6_scans_218 (by decide) ?_
                refine lv_isub hx hb dX6_scans_220 ?_
                refine lv_goto (tgt := 228) hx hb dX6_scans_221 (by decide) ?_
                refine va_put (ci := 6) (v := .int (((10 * (gI s173 4)) + ((gR s173 0) ((80 + (gI s173 1)).toNatClampNeg))) - 48)) (ty := .int) (C := RX6) (T := TX6) (N := 26) hx hb hts inlX6 tyX6 tyX6_ok nmX6 hown hE.1 hP hD hS 0 rfl rfl 10 (by decide) (hts _ wB291) (fun _ h9 => h9) rfl (by decide +kernel) rfl rfl (Nat.le_of_ble_eq_true rfl) dX6_scans_228 (fun H locs hP hD hS => ?_)
                have hP : va_P D vwCl (WM q cy (sI s173 4 (((10 * (gI s173 4)) + ((gR s173 0) ((80 + (gI s173 1)).toNatClampNeg))) - 48)) ++ rest) H := hP
                have hD : va_D A (WM q cy (sI s173 4 (((10 * (gI s173 4)) + ((gR s173 0) ((80 + (gI s173 1)).toNatClampNeg))) - 48)) ++ rest) := hD
                refine lv_aload_n hx hb dX6_scans_231 rfl (lv_at hl 0 rfl) ?_
                refine lv_dup hx hb dX6_scans_232 rfl ?_
                refine va_get (ci := 6) (v := .int (gI s173 1)) (C := RX6) (T := TX6) (N := 26) hx hb hts inlX6 hown hE.1 hP 0 rfl rfl 7 (by decide) (hts _ wB288) (fun _ h9 => h9) rfl dX6_scans_233 ?_
                refine lv_iconst (v := 1) hx hb dX6_scans_236 (by decide) ?_
                refine lv_iadd hx hb dX6_scans_237 ?_
                refine va_put (ci := 6) (v := .int ((gI s173 1) + 1)) (ty := .int) (C := RX6) (T := TX6) (N := 26) hx hb hts inlX6 tyX6 tyX6_ok nmX6 hown hE.1 hP hD hS 0 rfl rfl 7 (by decide) (hts _ wB288) (fun _ h9 => h9) rfl (by decide +kernel) rfl rfl (Nat.le_of_ble_eq_true rfl) dX6_scans_238 (fun H locs hP hD hS => ?_)
                have hQ : ∀ (xb : KS) (x0 : Int32) (xn : Int32), (WM q cy (sI xb 4 x0) ++ rest).set 0 (q 0, .inr (6, [.ref (q 1), .ref (q 2), .ref (q 3), .ref (q 4), .int (gI (sI xb 4 x0) 0), .ref (q 5), .ref (q 6), .int (gI (sI xb 4 x0) 1), .int (gI (sI xb 4 x0) 2), .int (gI (sI xb 4 x0) 3), .int (gI (sI xb 4 x0) 4), .ref (q 7), .ref (q 8), .ref (q 9), .int (gI (sI xb 4 x0) 5), .ref (q 10), .int (gI (sI xb 4 x0) 6), .int (gI (sI xb 4 x0) 7), .int (gI (sI xb 4 x0) 8), .int (gI (sI xb 4 x0) 9), .ref (q 11), .long (gL (sI xb 4 x0) 0), .ref (q 12), .ref (q 13), .ref (q 14), .int (gI (sI xb 4 x0) 10)].set 7 (.int xn))) = WM q cy (sI (sI xb 1 xn) 4 x0) ++ rest := fun _ _ _ => rfl
                have hP : va_P D vwCl (WM q cy (sI (sI s173 1 ((gI s173 1) + 1)) 4 (((10 * (gI s173 4)) + ((gR s173 0) ((80 + (gI s173 1)).toNatClampNeg))) - 48)) ++ rest) H := k_wP (hQ s173 (((10 * (gI s173 4)) + ((gR s173 0) ((80 + (gI s173 1)).toNatClampNeg))) - 48) ((gI s173 1) + 1)) hP
                have hD : va_D A (WM q cy (sI (sI s173 1 ((gI s173 1) + 1)) 4 (((10 * (gI s173 4)) + ((gR s173 0) ((80 + (gI s173 1)).toNatClampNeg))) - 48)) ++ rest) := k_wD (hQ s173 (((10 * (gI s173 4)) + ((gR s173 0) ((80 + (gI s173 1)).toNatClampNeg))) - 48) ((gI s173 1) + 1)) hD
                clear hQ
                refine lv_goto (tgt := 173) hx hb dX6_scans_241 (by decide) ?_
                obtain rfl := o_ret hf
                exact ih173 _ _ (lpK_r h173z) _ _ _ hP hD hS (lv_sub hl [0] rfl) K173_0
        obtain ⟨e173, h173q, hf⟩ := o_bs hf
        obtain ⟨n173v, h173q⟩ := lpF_ex h173q
        refine L173 n173v _ e173 h173q _ _ _ hP hD hS (lv_sub hl [0] rfl) ?_
        intro H locs ls hP hD hS hl
        refine lv_aload_n hx hb dX6_scans_244 rfl (lv_at hl 0 rfl) ?_
        refine lv_aload_n hx hb dX6_scans_245 rfl (lv_at hl 0 rfl) ?_
        refine va_get (ci := 6) (v := .int (gI e173 1)) (C := RX6) (T := TX6) (N := 26) hx hb hts inlX6 hown hE.1 hP 0 rfl rfl 7 (by decide) (hts _ wB288) (fun _ h9 => h9) rfl dX6_scans_246 ?_
        refine lv_aload_n hx hb dX6_scans_249 rfl (lv_at hl 0 rfl) ?_
        refine va_get (ci := 6) (v := .int (gI e173 2)) (C := RX6) (T := TX6) (N := 26) hx hb hts inlX6 hown hE.1 hP 0 rfl rfl 8 (by decide) (hts _ wB283) (fun _ h9 => h9) rfl dX6_scans_250 ?_
        refine lv_isub hx hb dX6_scans_253 ?_
        refine lv_iconst (v := 2) hx hb dX6_scans_254 (by decide) ?_
        refine lv_icmp_le (tgt := 262) hx hb dX6_scans_255 (by decide) (fun c255 => ?_) (fun c255 => ?_)
        · have hf := o_ip c255 hf
          refine lv_iconst (v := 2) hx hb dX6_scans_262 (by decide) ?_
          refine va_put (ci := 6) (v := .int 2) (ty := .int) (C := RX6) (T := TX6) (N := 26) hx hb hts inlX6 tyX6 tyX6_ok nmX6 hown hE.1 hP hD hS 0 rfl rfl 9 (by decide) (hts _ wB290) (fun _ h9 => h9) rfl (by decide +kernel) rfl rfl (Nat.le_of_ble_eq_true rfl) dX6_scans_263 (fun H locs hP hD hS => ?_)
          have hP : va_P D vwCl (WM q cy (sI e173 3 2) ++ rest) H := hP
          have hD : va_D A (WM q cy (sI e173 3 2) ++ rest) := hD
          obtain rfl := o_ret hf
          exact k_vret hx hb hr hP hD hS (Nat.zero_le _) (Nat.zero_le _) hlocks dX6_scans_266
        · have hf := o_in c255 hf
          refine lv_iconst (v := 1) hx hb dX6_scans_258 (by decide) ?_
          refine lv_goto (tgt := 263) hx hb dX6_scans_259 (by decide) ?_
          refine va_put (ci := 6) (v := .int 1) (ty := .int) (C := RX6) (T := TX6) (N := 26) hx hb hts inlX6 tyX6 tyX6_ok nmX6 hown hE.1 hP hD hS 0 rfl rfl 9 (by decide) (hts _ wB290) (fun _ h9 => h9) rfl (by decide +kernel) rfl rfl (Nat.le_of_ble_eq_true rfl) dX6_scans_263 (fun H locs hP hD hS => ?_)
          have hP : va_P D vwCl (WM q cy (sI e173 3 1) ++ rest) H := hP
          have hD : va_D A (WM q cy (sI e173 3 1) ++ rest) := hD
          obtain rfl := o_ret hf
          exact k_vret hx hb hr hP hD hS (Nat.zero_le _) (Nat.zero_le _) hlocks dX6_scans_266
    · have hf := o_in c59 hf
      refine lv_lconst (v := 0) hx hb dX6_scans_62 (by decide) ?_
      refine lv_lstore_n (lv' := [(1, .long 0), (0, .ref (q 0))]) hx hb dX6_scans_63 rfl hl (by decide) rfl (fun ls hl => ?_)
      have L64 : ∀ (n64v : Nat) (s64 : Int64 × KS) (e64 : (Int64 × KS)), lpO mX6_scans_s64 n64v s64 = some e64 → ∀ (H : Heap) (locs : List Loc) (ls : Array Slot), va_P D vwCl (WM q cy s64.2 ++ rest) H → va_D A (WM q cy s64.2 ++ rest) → va_S A s.heap H locs → lv_has ls 3 [(0, .ref (q 0)), (1, .long s64.1)] → (∀ (H : Heap) (locs : List Loc) (ls : Array Slot), va_P D vwCl (WM q cy e64.2 ++ rest) H → va_D A (WM q cy e64.2 ++ rest) → va_S A s.heap H locs → lv_has ls 3 [(0, .ref (q 0)), (1, .long e64.1)] → W p l e rmX6_scans s m ([.ref (q 0)] : List Value).toArray below meth c H locs 0 0 (MQ below (kQv D A (WM q cy res ++ rest)) ([.ref (q 0)] : List Value).toArray s 0 0 A) (F0 m 131 ls [])) → W p l e rmX6_scans s m ([.ref (q 0)] : List Value).toArray below meth c H locs 0 0 (MQ below (kQv D A (WM q cy res ++ rest)) ([.ref (q 0)] : List Value).toArray s 0 0 A) (F0 m 64 ls []) := by
        intro n64v
        induction n64v with
        | zero => intro s64 e64 h; exact (lpO_z h).elim
        | succ n64v ih64 =>
          intro s64 e64 h64z H locs ls hP hD hS hl K64_0
          obtain ⟨x64, hf, h64z⟩ := lpO_s h64z
          unfold mX6_scans_s64 at hf
          refine lv_aload_n hx hb dX6_scans_64 rfl (lv_at hl 0 rfl) ?_
          refine lv_bipush (v := 97) hx hb dX6_scans_65 (by decide) ?_
          refine lv_bipush (v := 122) hx hb dX6_scans_67 (by decide) ?_
          obtain ⟨r69, h69r, hf⟩ := o_bs hf
          refine k_goi (va_runV (As := [.int 97, .int 122]) (rest := []) ⟨hx, hb, hml, hown, hts⟩ (zX6_isAt l D cy sa q rest H.size s64.2 97 122 r69 h69r) (cwV 2 hts (gB_V wB300 wB301 wB302 wB5 wB303) rfl rfl rfl (by decide +kernel) ⟨Nat.le_of_ble_eq_true rfl, Nat.le_of_ble_eq_true rfl⟩) ⟨kP.blind, k_recv hE hP (ci := 6) (q0 := 0) rfl rfl, k_pre hP hD hS hE hA⟩ rfl rfl hl.1 rfl (lv_room (Nat.le_of_ble_eq_true rfl)) dX6_scans_69 ⟨Nat.zero_le _, Nat.zero_le _⟩) hD hS hA (fun H locs hP hD hS => ?_)
          refine lv_if_eq (tgt := 131) hx hb dX6_scans_72 (by decide) (fun c72 => ?_) (fun c72 => ?_)
          · have hf := o_ip c72 hf
            obtain rfl := o_ret hf
            obtain rfl := lpK_l h64z
            exact K64_0 _ _ _ hP hD hS (lv_sub hl [0, 1] rfl)
          · have hf := o_in c72 hf
            refine lv_aload_n hx hb dX6_scans_75 rfl (lv_at hl 0 rfl) ?_
            refine va_get (ci := 6) (v := .int (gI s64.2 1)) (C := RX6) (T := TX6) (N := 26) hx hb hts inlX6 hown hE.1 hP 0 rfl rfl 7 (by decide) (hts _ wB288) (fun _ h9 => h9) rfl dX6_scans_76 ?_
            refine lv_aload_n hx hb dX6_scans_79 rfl (lv_at hl 0 rfl) ?_
            refine va_get (ci := 6) (v := .int (gI s64.2 2)) (C := RX6) (T := TX6) (N := 26) hx hb hts inlX6 hown hE.1 hP 0 rfl rfl 8 (by decide) (hts _ wB283) (fun _ h9 => h9) rfl dX6_scans_80 ?_
            refine lv_isub hx hb dX6_scans_83 ?_
            refine lv_iconst (v := 5) hx hb dX6_scans_84 (by decide) ?_
            refine lv_icmp_le (tgt := 92) hx hb dX6_scans_85 (by decide) (fun c85 => ?_) (fun c85 => ?_)
            · have hf := o_ip c85 hf
              refine lv_ldc2 (v := 32) hx hb hown (hts _ wB298) dX6_scans_92 ?_
              refine lv_lload_n hx hb dX6_scans_95 rfl (lv_at hl 1 rfl) ?_
              refine lv_lmul hx hb dX6_scans_96 ?_
              refine lv_aload_n hx hb dX6_scans_97 rfl (lv_at hl 0 rfl) ?_
              refine va_get (ci := 6) (v := .ref (q 1)) (C := RX6) (T := TX6) (N := 26) hx hb hts inlX6 hown hE.1 hP 0 rfl rfl 0 (by decide) (hts _ wB83) (fun _ h9 => h9) rfl dX6_scans_98 ?_
              refine lv_bipush (v := 80) hx hb dX6_scans_101 (by decide) ?_
              refine lv_aload_n hx hb dX6_scans_103 rfl (lv_at hl 0 rfl) ?_
              refine va_get (ci := 6) (v := .int (gI s64.2 1)) (C := RX6) (T := TX6) (N := 26) hx hb hts inlX6 hown hE.1 hP 0 rfl rfl 7 (by decide) (hts _ wB288) (fun _ h9 => h9) rfl dX6_scans_104 ?_
              refine lv_iadd hx hb dX6_scans_107 ?_
              obtain ⟨hg108, hf⟩ := gd_s hf
              refine va_iald (f := (gR s64.2 0)) hx hb hE.1 hP 1 0 rfl rfl hg108 dX6_scans_108 ?_
              refine lv_i2l (v := (((gR s64.2 0) ((80 + (gI s64.2 1)).toNatClampNeg)).toInt64)) hx hb dX6_scans_109 rfl ?_
              refine lv_ladd hx hb dX6_scans_110 ?_
              refine lv_ldc2 (v := 97) hx hb hown (hts _ wB299) dX6_scans_111 ?_
              refine lv_lsub hx hb dX6_scans_114 ?_
              refine lv_lconst (v := 1) hx hb dX6_scans_115 (by decide) ?_
              refine lv_ladd hx hb dX6_scans_116 ?_
              refine lv_lstore_n (lv' := [(1, .long ((((32 * s64.1) + (((gR s64.2 0) ((80 + (gI s64.2 1)).toNatClampNeg)).toInt64)) - 97) + 1)), (0, .ref (q 0))]) hx hb dX6_scans_117 rfl hl (by decide) rfl (fun ls hl => ?_)
              refine lv_aload_n hx hb dX6_scans_118 rfl (lv_at hl 1 rfl) ?_
              refine lv_dup hx hb dX6_scans_119 rfl ?_
              refine va_get (ci := 6) (v := .int (gI s64.2 1)) (C := RX6) (T := TX6) (N := 26) hx hb hts inlX6 hown hE.1 hP 0 rfl rfl 7 (by decide) (hts _ wB288) (fun _ h9 => h9) rfl dX6_scans_120 ?_
              refine lv_iconst (v := 1) hx hb dX6_scans_123 (by decide) ?_
              refine lv_iadd hx hb dX6_scans_124 ?_
              refine va_put (ci := 6) (v := .int ((gI s64.2 1) + 1)) (ty := .int) (C := RX6) (T := TX6) (N := 26) hx hb hts inlX6 tyX6 tyX6_ok nmX6 hown hE.1 hP hD hS 0 rfl rfl 7 (by decide) (hts _ wB288) (fun _ h9 => h9) rfl (by decide +kernel) rfl rfl (Nat.le_of_ble_eq_true rfl) dX6_scans_125 (fun H locs hP hD hS => ?_)
              have hP : va_P D vwCl (WM q cy (sI s64.2 1 ((gI s64.2 1) + 1)) ++ rest) H := hP
              have hD : va_D A (WM q cy (sI s64.2 1 ((gI s64.2 1) + 1)) ++ rest) := hD
              refine lv_goto (tgt := 64) hx hb dX6_scans_128 (by decide) ?_
              obtain rfl := o_ret hf
              exact ih64 _ _ (lpK_r h64z) _ _ _ hP hD hS (lv_sub hl [1, 0] rfl) K64_0
            · have hf := o_in c85 hf
              refine lv_lconst (v := 0) hx hb dX6_scans_88 (by decide) ?_
              refine lv_goto (tgt := 117) hx hb dX6_scans_89 (by decide) ?_
              refine lv_lstore_n (lv' := [(1, .long 0), (0, .ref (q 0))]) hx hb dX6_scans_117 rfl hl (by decide) rfl (fun ls hl => ?_)
              refine lv_aload_n hx hb dX6_scans_118 rfl (lv_at hl 1 rfl) ?_
              refine lv_dup hx hb dX6_scans_119 rfl ?_
              refine va_get (ci := 6) (v := .int (gI s64.2 1)) (C := RX6) (T := TX6) (N := 26) hx hb hts inlX6 hown hE.1 hP 0 rfl rfl 7 (by decide) (hts _ wB288) (fun _ h9 => h9) rfl dX6_scans_120 ?_
              refine lv_iconst (v := 1) hx hb dX6_scans_123 (by decide) ?_
              refine lv_iadd hx hb dX6_scans_124 ?_
              refine va_put (ci := 6) (v := .int ((gI s64.2 1) + 1)) (ty := .int) (C := RX6) (T := TX6) (N := 26) hx hb hts inlX6 tyX6 tyX6_ok nmX6 hown hE.1 hP hD hS 0 rfl rfl 7 (by decide) (hts _ wB288) (fun _ h9 => h9) rfl (by decide +kernel) rfl rfl (Nat.le_of_ble_eq_true rfl) dX6_scans_125 (fun H locs hP hD hS => ?_)
              have hP : va_P D vwCl (WM q cy (sI s64.2 1 ((gI s64.2 1) + 1)) ++ rest) H := hP
              have hD : va_D A (WM q cy (sI s64.2 1 ((gI s64.2 1) + 1)) ++ rest) := hD
              refine lv_goto (tgt := 64) hx hb dX6_scans_128 (by decide) ?_
              obtain rfl := o_ret hf
              exact ih64 _ _ (lpK_r h64z) _ _ _ hP hD hS (lv_sub hl [1, 0] rfl) K64_0
      obtain ⟨e64, h64q, hf⟩ := o_bs hf
      obtain ⟨n64v, h64q⟩ := lpF_ex h64q
      refine L64 n64v _ e64 h64q _ _ _ hP hD hS (lv_sub hl [1, 0] rfl) ?_
      intro H locs ls hP hD hS hl
      refine lv_aload_n hx hb dX6_scans_131 rfl (lv_at hl 0 rfl) ?_
      refine lv_aload_n hx hb dX6_scans_132 rfl (lv_at hl 0 rfl) ?_
      refine va_get (ci := 6) (v := .int (gI e64.2 1)) (C := RX6) (T := TX6) (N := 26) hx hb hts inlX6 hown hE.1 hP 0 rfl rfl 7 (by decide) (hts _ wB288) (fun _ h9 => h9) rfl dX6_scans_133 ?_
      refine lv_aload_n hx hb dX6_scans_136 rfl (lv_at hl 0 rfl) ?_
      refine va_get (ci := 6) (v := .int (gI e64.2 2)) (C := RX6) (T := TX6) (N := 26) hx hb hts inlX6 hown hE.1 hP 0 rfl rfl 8 (by decide) (hts _ wB283) (fun _ h9 => h9) rfl dX6_scans_137 ?_
      refine lv_isub hx hb dX6_scans_140 ?_
      refine lv_iconst (v := 5) hx hb dX6_scans_141 (by decide) ?_
      refine lv_icmp_le (tgt := 149) hx hb dX6_scans_142 (by decide) (fun c142 => ?_) (fun c142 => ?_)
      · have hf := o_ip c142 hf
        refine lv_lload_n hx hb dX6_scans_149 rfl (lv_at hl 1 rfl) ?_
        obtain ⟨r150, h150r, hf⟩ := o_bs hf
        refine k_goi (va_runS (As := [.long e64.1]) (rest := [.ref (q 0)]) ⟨hx, hb, hml, hown, hts⟩ (zX6_wordOf l D cy sa (WM q cy e64.2 ++ rest) H.size e64.1  r150  h150r) (va_cwS 1 hts (gB_S wB304 wB305 wB5 wB306) rfl rfl rfl (by decide +kernel) ⟨Nat.le_of_ble_eq_true rfl, Nat.le_of_ble_eq_true rfl⟩) ⟨kP.blind, k_pre hP hD hS hE hA⟩ rfl rfl hl.1 rfl (lv_room (Nat.le_of_ble_eq_true rfl)) dX6_scans_150 ⟨Nat.zero_le _, Nat.zero_le _⟩) hD hS hA (fun H locs hP hD hS => ?_)
        refine va_put (ci := 6) (v := .int r150) (ty := .int) (C := RX6) (T := TX6) (N := 26) hx hb hts inlX6 tyX6 tyX6_ok nmX6 hown hE.1 hP hD hS 0 rfl rfl 9 (by decide) (hts _ wB290) (fun _ h9 => h9) rfl (by decide +kernel) rfl rfl (Nat.le_of_ble_eq_true rfl) dX6_scans_153 (fun H locs hP hD hS => ?_)
        have hP : va_P D vwCl (WM q cy (sI e64.2 3 r150) ++ rest) H := hP
        have hD : va_D A (WM q cy (sI e64.2 3 r150) ++ rest) := hD
        obtain rfl := o_ret hf
        exact k_vret hx hb hr hP hD hS (Nat.zero_le _) (Nat.zero_le _) hlocks dX6_scans_156
      · have hf := o_in c142 hf
        refine lv_iconst (v := 1) hx hb dX6_scans_145 (by decide) ?_
        refine lv_goto (tgt := 153) hx hb dX6_scans_146 (by decide) ?_
        refine va_put (ci := 6) (v := .int 1) (ty := .int) (C := RX6) (T := TX6) (N := 26) hx hb hts inlX6 tyX6 tyX6_ok nmX6 hown hE.1 hP hD hS 0 rfl rfl 9 (by decide) (hts _ wB290) (fun _ h9 => h9) rfl (by decide +kernel) rfl rfl (Nat.le_of_ble_eq_true rfl) dX6_scans_153 (fun H locs hP hD hS => ?_)
        have hP : va_P D vwCl (WM q cy (sI e64.2 3 1) ++ rest) H := hP
        have hD : va_D A (WM q cy (sI e64.2 3 1) ++ rest) := hD
        obtain rfl := o_ret hf
        exact k_vret hx hb hr hP hD hS (Nat.zero_le _) (Nat.zero_le _) hlocks dX6_scans_156
  · have hf := o_ip c42 hf
    refine lv_aload_n hx hb dX6_scans_45 rfl (lv_at hl 0 rfl) ?_
    refine lv_iconst (v := 0) hx hb dX6_scans_46 (by decide) ?_
    refine va_put (ci := 6) (v := .int 0) (ty := .int) (C := RX6) (T := TX6) (N := 26) hx hb hts inlX6 tyX6 tyX6_ok nmX6 hown hE.1 hP hD hS 0 rfl rfl 9 (by decide) (hts _ wB290) (fun _ h9 => h9) rfl (by decide +kernel) rfl rfl (Nat.le_of_ble_eq_true rfl) dX6_scans_47 (fun H locs hP hD hS => ?_)
    have hQ : ∀ (xb : KS) (x0 : Int32) (xn : Int32), (WM q cy (sI xb 2 x0) ++ rest).set 0 (q 0, .inr (6, [.ref (q 1), .ref (q 2), .ref (q 3), .ref (q 4), .int (gI (sI xb 2 x0) 0), .ref (q 5), .ref (q 6), .int (gI (sI xb 2 x0) 1), .int (gI (sI xb 2 x0) 2), .int (gI (sI xb 2 x0) 3), .int (gI (sI xb 2 x0) 4), .ref (q 7), .ref (q 8), .ref (q 9), .int (gI (sI xb 2 x0) 5), .ref (q 10), .int (gI (sI xb 2 x0) 6), .int (gI (sI xb 2 x0) 7), .int (gI (sI xb 2 x0) 8), .int (gI (sI xb 2 x0) 9), .ref (q 11), .long (gL (sI xb 2 x0) 0), .ref (q 12), .ref (q 13), .ref (q 14), .int (gI (sI xb 2 x0) 10)].set 9 (.int xn))) = WM q cy (sI (sI xb 2 x0) 3 xn) ++ rest := fun _ _ _ => rfl
    have hP : va_P D vwCl (WM q cy (sI (sI e0 2 (gI e0 1)) 3 0) ++ rest) H := k_wP (hQ e0 (gI e0 1) 0) hP
    have hD : va_D A (WM q cy (sI (sI e0 2 (gI e0 1)) 3 0) ++ rest) := k_wD (hQ e0 (gI e0 1) 0) hD
    clear hQ
    obtain rfl := o_ret hf
    exact k_vret hx hb hr hP hD hS (Nat.zero_le _) (Nat.zero_le _) hlocks dX6_scans_50
noncomputable def mX6_reads_s120 (c1 : Int32) (c2 : Int32) (s120 : Int32 × KS) : Option ((KS) ⊕ (Int32 × KS)) :=
  if (gI s120.2 4) ≤ s120.1 then
  (some (.inl s120.2))
  else
  (gd (inb (gI s120.2 5) 120) (gd (inb (gI s120.2 5) 120) (some (.inr ((s120.1 + 1), (sR (sR (sI s120.2 5 ((gI s120.2 5) + 1)) 6 (upd (gR s120.2 6) ((gI s120.2 5).toNatClampNeg) c1)) 7 (upd (gR s120.2 7) ((gI s120.2 5).toNatClampNeg) c2)))))))
noncomputable def mX6_reads_s14  (s14 : KS) : Option ((KS ⊕ KS ⊕ KS ⊕ KS ⊕ KS) ⊕ (KS)) :=
  if (gI s14 3) = 0 then
  (some (.inl (.inl s14)))
  else
  (if 4 ≤ (gI s14 3) then
  ((mX6_scans s14).bind fun r36 =>
  if (gI s14 3) = 6 then
  (if (gI r36 3) = 2 then
  ((mX6_in ((gI r36 4).toInt64) 1 9).bind fun r62 =>
  if r62 = 0 then
  (some (.inl (.inr (.inr (.inl r36)))))
  else
  ((mX6_scans r36).bind fun r76 =>
  if (gI r76 3) = 2 then
  ((mX6_in ((gI r76 4).toInt64) 1 60).bind fun r96 =>
  if r96 = 0 then
  (some (.inl (.inr (.inr (.inr (.inl r76))))))
  else
  (if ((gI r76 5) + (gI r76 4)) ≤ 120 then
  ((lpF (mX6_reads_s120 (gI s14 3) (gI r36 4)) (0, r76)).bind fun e120 =>
  (mX6_scans e120).bind fun r165 =>
  if (gI r165 3) = 3 then
  ((mX6_scans r165).bind fun r179 =>
  some (.inr r179))
  else
  (some (.inl (.inr (.inr (.inr (.inr r165)))))))
  else
  (some (.inl (.inr (.inr (.inr (.inl r76))))))))
  else
  (some (.inl (.inr (.inr (.inr (.inl r76))))))))
  else
  (some (.inl (.inr (.inr (.inl r36))))))
  else
  (if (gI r36 3) = 2 then
  ((mX6_in ((gI r36 4).toInt64) 1 60).bind fun r96 =>
  if r96 = 0 then
  (some (.inl (.inr (.inr (.inr (.inl r36))))))
  else
  (if ((gI r36 5) + (gI r36 4)) ≤ 120 then
  ((lpF (mX6_reads_s120 (gI s14 3) 0) (0, r36)).bind fun e120 =>
  (mX6_scans e120).bind fun r165 =>
  if (gI r165 3) = 3 then
  ((mX6_scans r165).bind fun r179 =>
  some (.inr r179))
  else
  (some (.inl (.inr (.inr (.inr (.inr r165)))))))
  else
  (some (.inl (.inr (.inr (.inr (.inl r36))))))))
  else
  (some (.inl (.inr (.inr (.inr (.inl r36))))))))
  else
  (some (.inl (.inr (.inl s14)))))
noncomputable def mX6_reads (u : KS) : Option (Int32 × KS) :=
  (mX6_scans (sI (sI u 1 0) 5 0)).bind fun r11 =>
  (lpF mX6_reads_s14 r11).bind (oE (fun e14_0 => some (1, e14_0)) (oE (fun e14_1 => some (0, e14_1)) (oE (fun e14_2 => some (0, e14_2)) (oE (fun e14_3 => some (0, e14_3)) (fun e14_4 => some (0, e14_4))))))
abbrev rmX6_reads : Room := { frames := 3, cells := 0, slots := 0, locals := 69 }
set_option maxRecDepth 100000 in
set_option maxHeartbeats 4000000 in
theorem zX6_reads (l : Launch) (D : va_G) (cy : Nat → ClassId) (sa : Nat → Nat) (q : Nat → Nat) (rest : va_W) (sz : Nat) (u : KS) (res : Int32 × KS) (hf : mX6_reads u = some res) : kMi l yX6_reads (wsK yX6_reads cX6_reads 4 (some .boolean)) rmX6_reads D cy sa (WM q cy u ++ rest) sz [.ref (q 0)] res.1 (WM q cy res.2 ++ rest) 0 0 := by
  refine kM_of (Qc := fun A => kQi D A res.1 (WM q cy res.2 ++ rest)) (cc := cX6_reads) (maxL := 4) (ret := (some .boolean)) (by decide) (Nat.le_of_ble_eq_true rfl) ?_
  intro p e s m below meth c A hx hb hml hr hts hown hlocks hin hA hP hD hS hE hsz ls hl
  have hown : s.vm.findClass RX6 = some m.cls := hown
  obtain ⟨H, hH0⟩ : ∃ H, H = s.heap := ⟨_, rfl⟩
  obtain ⟨locs, hlocs0⟩ : ∃ locs : List Loc, locs = [] := ⟨_, rfl⟩
  have hP : va_P D vwCl (WM q cy u ++ rest) H := by rw [hH0]; exact hP
  have hS : va_S A s.heap H locs := by rw [hH0, hlocs0]; exact hS
  have hl : lv_has ls 4 [(0, .ref (q 0))] := hl
  suffices hgoal : W p l e rmX6_reads s m ([.ref (q 0)] : List Value).toArray below meth c H locs 0 0 (MQ below (kQi D A res.1 (WM q cy res.2 ++ rest)) ([.ref (q 0)] : List Value).toArray s 0 0 A) (F0 m 0 ls []) by rw [hH0, hlocs0] at hgoal; exact hgoal
  clear hH0 hlocs0
  unfold mX6_reads at hf
  refine lv_aload_n hx hb dX6_reads_0 rfl (lv_at hl 0 rfl) ?_
  refine lv_iconst (v := 0) hx hb dX6_reads_1 (by decide) ?_
  refine va_put (ci := 6) (v := .int 0) (ty := .int) (C := RX6) (T := TX6) (N := 26) hx hb hts inlX6 tyX6 tyX6_ok nmX6 hown hE.1 hP hD hS 0 rfl rfl 7 (by decide) (hts _ wB288) (fun _ h9 => h9) rfl (by decide +kernel) rfl rfl (Nat.le_of_ble_eq_true rfl) dX6_reads_2 (fun H locs hP hD hS => ?_)
  have hP : va_P D vwCl (WM q cy (sI u 1 0) ++ rest) H := hP
  have hD : va_D A (WM q cy (sI u 1 0) ++ rest) := hD
  refine lv_aload_n hx hb dX6_reads_5 rfl (lv_at hl 0 rfl) ?_
  refine lv_iconst (v := 0) hx hb dX6_reads_6 (by decide) ?_
  refine va_put (ci := 6) (v := .int 0) (ty := .int) (C := RX6) (T := TX6) (N := 26) hx hb hts inlX6 tyX6 tyX6_ok nmX6 hown hE.1 hP hD hS 0 rfl rfl 14 (by decide) (hts _ wB289) (fun _ h9 => h9) rfl (by decide +kernel) rfl rfl (Nat.le_of_ble_eq_true rfl) dX6_reads_7 (fun H locs hP hD hS => ?_)
  have hQ : ∀ (xb : KS) (x0 : Int32) (xn : Int32), (WM q cy (sI xb 1 x0) ++ rest).set 0 (q 0, .inr (6, [.ref (q 1), .ref (q 2), .ref (q 3), .ref (q 4), .int (gI (sI xb 1 x0) 0), .ref (q 5), .ref (q 6), .int (gI (sI xb 1 x0) 1), .int (gI (sI xb 1 x0) 2), .int (gI (sI xb 1 x0) 3), .int (gI (sI xb 1 x0) 4), .ref (q 7), .ref (q 8), .ref (q 9), .int (gI (sI xb 1 x0) 5), .ref (q 10), .int (gI (sI xb 1 x0) 6), .int (gI (sI xb 1 x0) 7), .int (gI (sI xb 1 x0) 8), .int (gI (sI xb 1 x0) 9), .ref (q 11), .long (gL (sI xb 1 x0) 0), .ref (q 12), .ref (q 13), .ref (q 14), .int (gI (sI xb 1 x0) 10)].set 14 (.int xn))) = WM q cy (sI (sI xb 1 x0) 5 xn) ++ rest := fun _ _ _ => rfl
  have hP : va_P D vwCl (WM q cy (sI (sI u 1 0) 5 0) ++ rest) H := k_wP (hQ u 0 0) hP
  have hD : va_D A (WM q cy (sI (sI u 1 0) 5 0) ++ rest) := k_wD (hQ u 0 0) hD
  clear hQ
  refine lv_aload_n hx hb dX6_reads_10 rfl (lv_at hl 0 rfl) ?_
  obtain ⟨r11, h11r, hf⟩ := o_bs hf
  refine k_gov (va_runV (As := []) (rest := []) ⟨hx, hb, hml, hown, hts⟩ (zX6_scans l D cy sa q rest H.size (sI (sI u 1 0) 5 0)  r11 h11r) (cwV 0 hts (gB_V wB294 wB295 wB296 wB5 wB297) rfl rfl rfl (by decide +kernel) ⟨Nat.le_of_ble_eq_true rfl, Nat.le_of_ble_eq_true rfl⟩) ⟨kP.blind, k_recv hE hP (ci := 6) (q0 := 0) rfl rfl, k_pre hP hD hS hE hA⟩ rfl rfl hl.1 rfl (lv_room (Nat.le_of_ble_eq_true rfl)) dX6_reads_11 ⟨Nat.zero_le _, Nat.zero_le _⟩) hD hS hA (fun H locs hP hD hS => ?_)
  have L14 : ∀ (n14v : Nat) (s14 : KS) (e14 : KS ⊕ KS ⊕ KS ⊕ KS ⊕ KS), lpO mX6_reads_s14 n14v s14 = some e14 → ∀ (H : Heap) (locs : List Loc) (ls : Array Slot), va_P D vwCl (WM q cy s14 ++ rest) H → va_D A (WM q cy s14 ++ rest) → va_S A s.heap H locs → lv_has ls 4 [(0, .ref (q 0))] → (∀ e14_0 : KS, e14 = (.inl e14_0) → ∀ (H : Heap) (locs : List Loc) (ls : Array Slot), va_P D vwCl (WM q cy e14_0 ++ rest) H → va_D A (WM q cy e14_0 ++ rest) → va_S A s.heap H locs → lv_has ls 4 [] → W p l e rmX6_reads s m ([.ref (q 0)] : List Value).toArray below meth c H locs 0 0 (MQ below (kQi D A res.1 (WM q cy res.2 ++ rest)) ([.ref (q 0)] : List Value).toArray s 0 0 A) (F0 m 185 ls [])) → (∀ e14_1 : KS, e14 = (.inr (.inl e14_1)) → ∀ (H : Heap) (locs : List Loc) (ls : Array Slot), va_P D vwCl (WM q cy e14_1 ++ rest) H → va_D A (WM q cy e14_1 ++ rest) → va_S A s.heap H locs → lv_has ls 4 [] → W p l e rmX6_reads s m ([.ref (q 0)] : List Value).toArray below meth c H locs 0 0 (MQ below (kQi D A res.1 (WM q cy res.2 ++ rest)) ([.ref (q 0)] : List Value).toArray s 0 0 A) (F0 m 33 ls [])) → (∀ e14_2 : KS, e14 = (.inr (.inr (.inl e14_2))) → ∀ (H : Heap) (locs : List Loc) (ls : Array Slot), va_P D vwCl (WM q cy e14_2 ++ rest) H → va_D A (WM q cy e14_2 ++ rest) → va_S A s.heap H locs → lv_has ls 4 [] → W p l e rmX6_reads s m ([.ref (q 0)] : List Value).toArray below meth c H locs 0 0 (MQ below (kQi D A res.1 (WM q cy res.2 ++ rest)) ([.ref (q 0)] : List Value).toArray s 0 0 A) (F0 m 68 ls [])) → (∀ e14_3 : KS, e14 = (.inr (.inr (.inr (.inl e14_3)))) → ∀ (H : Heap) (locs : List Loc) (ls : Array Slot), va_P D vwCl (WM q cy e14_3 ++ rest) H → va_D A (WM q cy e14_3 ++ rest) → va_S A s.heap H locs → lv_has ls 4 [] → W p l e rmX6_reads s m ([.ref (q 0)] : List Value).toArray below meth c H locs 0 0 (MQ below (kQi D A res.1 (WM q cy res.2 ++ rest)) ([.ref (q 0)] : List Value).toArray s 0 0 A) (F0 m 116 ls [])) → (∀ e14_4 : KS, e14 = (.inr (.inr (.inr (.inr e14_4)))) → ∀ (H : Heap) (locs : List Loc) (ls : Array Slot), va_P D vwCl (WM q cy e14_4 ++ rest) H → va_D A (WM q cy e14_4 ++ rest) → va_S A s.heap H locs → lv_has ls 4 [] → W p l e rmX6_reads s m ([.ref (q 0)] : List Value).toArray below meth c H locs 0 0 (MQ below (kQi D A res.1 (WM q cy res.2 ++ rest)) ([.ref (q 0)] : List Value).toArray s 0 0 A) (F0 m 176 ls [])) → W p l e rmX6_reads s m ([.ref (q 0)] : List Value).toArray below meth c H locs 0 0 (MQ below (kQi D A res.1 (WM q cy res.2 ++ rest)) ([.ref (q 0)] : List Value).toArray s 0 0 A) (F0 m 14 ls []) := by
    intro n14v
    induction n14v with
    | zero => intro s14 e14 h; exact (lpO_z h).elim
    | succ n14v ih14 =>
      intro s14 e14 h14z H locs ls hP hD hS hl K14_0 K14_1 K14_2 K14_3 K14_4
      obtain ⟨x14, hf, h14z⟩ := lpO_s h14z
      unfold mX6_reads_s14 at hf
      refine lv_aload_n hx hb dX6_reads_14 rfl (lv_at hl 0 rfl) ?_
      refine va_get (ci := 6) (v := .int (gI s14 3)) (C := RX6) (T := TX6) (N := 26) hx hb hts inlX6 hown hE.1 hP 0 rfl rfl 9 (by decide) (hts _ wB290) (fun _ h9 => h9) rfl dX6_reads_15 ?_
      refine lv_if_eq (tgt := 185) hx hb dX6_reads_18 (by decide) (fun c18 => ?_) (fun c18 => ?_)
      · have hf := o_ip c18 hf
        obtain rfl := o_ret hf
        obtain rfl := lpK_l h14z
        exact K14_0 _ rfl _ _ _ hP hD hS (lv_sub hl [] rfl)
      · have hf := o_in c18 hf
        refine lv_aload_n hx hb dX6_reads_21 rfl (lv_at hl 0 rfl) ?_
        refine va_get (ci := 6) (v := .int (gI s14 3)) (C := RX6) (T := TX6) (N := 26) hx hb hts inlX6 hown hE.1 hP 0 rfl rfl 9 (by decide) (hts _ wB290) (fun _ h9 => h9) rfl dX6_reads_22 ?_
        refine lv_istore_n (lv' := [(1, .int (gI s14 3)), (0, .ref (q 0))]) hx hb dX6_reads_25 rfl hl (by decide) rfl (fun ls hl => ?_)
        refine lv_iconst (v := 0) hx hb dX6_reads_26 (by decide) ?_
        refine lv_istore_n (lv' := [(2, .int 0), (1, .int (gI s14 3)), (0, .ref (q 0))]) hx hb dX6_reads_27 rfl hl (by decide) rfl (fun ls hl => ?_)
        refine lv_iload_n hx hb dX6_reads_28 rfl (lv_at hl 1 rfl) ?_
        refine lv_iconst (v := 4) hx hb dX6_reads_29 (by decide) ?_
        refine lv_icmp_ge (tgt := 35) hx hb dX6_reads_30 (by decide) (fun c30 => ?_) (fun c30 => ?_)
        · have hf := o_ip c30 hf
          refine lv_aload_n hx hb dX6_reads_35 rfl (lv_at hl 2 rfl) ?_
          obtain ⟨r36, h36r, hf⟩ := o_bs hf
          refine k_gov (va_runV (As := []) (rest := []) ⟨hx, hb, hml, hown, hts⟩ (zX6_scans l D cy sa q rest H.size s14  r36 h36r) (cwV 0 hts (gB_V wB294 wB295 wB296 wB5 wB297) rfl rfl rfl (by decide +kernel) ⟨Nat.le_of_ble_eq_true rfl, Nat.le_of_ble_eq_true rfl⟩) ⟨kP.blind, k_recv hE hP (ci := 6) (q0 := 0) rfl rfl, k_pre hP hD hS hE hA⟩ rfl rfl hl.1 rfl (lv_room (Nat.le_of_ble_eq_true rfl)) dX6_reads_36 ⟨Nat.zero_le _, Nat.zero_le _⟩) hD hS hA (fun H locs hP hD hS => ?_)
          refine lv_iload_n hx hb dX6_reads_39 rfl (lv_at hl 1 rfl) ?_
          refine lv_bipush (v := 6) hx hb dX6_reads_40 (by decide) ?_
          refine lv_icmp_ne (tgt := 79) hx hb dX6_reads_42 (by decide) (fun c42 => ?_) (fun c42 => ?_)
          · have hf := o_in c42 hf
            refine lv_aload_n hx hb dX6_reads_79 rfl (lv_at hl 2 rfl) ?_
            refine va_get (ci := 6) (v := .int (gI r36 3)) (C := RX6) (T := TX6) (N := 26) hx hb hts inlX6 hown hE.1 hP 0 rfl rfl 9 (by decide) (hts _ wB290) (fun _ h9 => h9) rfl dX6_reads_80 ?_
            refine lv_iconst (v := 2) hx hb dX6_reads_83 (by decide) ?_
            refine lv_icmp_ne (tgt := 116) hx hb dX6_reads_84 (by decide) (fun c84 => ?_) (fun c84 => ?_)
            · have hf := o_in c84 hf
              obtain rfl := o_ret hf
              obtain rfl := lpK_l h14z
              exact K14_3 _ rfl _ _ _ hP hD hS (lv_sub hl [] rfl)
            · have hf := o_ip c84 hf
              refine lv_aload_n hx hb dX6_reads_87 rfl (lv_at hl 2 rfl) ?_
              refine va_get (ci := 6) (v := .int (gI r36 4)) (C := RX6) (T := TX6) (N := 26) hx hb hts inlX6 hown hE.1 hP 0 rfl rfl 10 (by decide) (hts _ wB291) (fun _ h9 => h9) rfl dX6_reads_88 ?_
              refine lv_i2l (v := ((gI r36 4).toInt64)) hx hb dX6_reads_91 rfl ?_
              refine lv_lconst (v := 1) hx hb dX6_reads_92 (by decide) ?_
              refine lv_ldc2 (v := 60) hx hb hown (hts _ wB293) dX6_reads_93 ?_
              obtain ⟨r96, h96r, hf⟩ := o_bs hf
              refine k_goi (va_runS (As := [.long ((gI r36 4).toInt64), .long 1, .long 60]) (rest := []) ⟨hx, hb, hml, hown, hts⟩ (zX6_in l D cy sa (WM q cy r36 ++ rest) H.size ((gI r36 4).toInt64) 1 60  r96  h96r) (va_cwS 3 hts (gB_S wB141 wB142 wB5 wB143) rfl rfl rfl (by decide +kernel) ⟨Nat.le_of_ble_eq_true rfl, Nat.le_of_ble_eq_true rfl⟩) ⟨kP.blind, k_pre hP hD hS hE hA⟩ rfl rfl hl.1 rfl (lv_room (Nat.le_of_ble_eq_true rfl)) dX6_reads_96 ⟨Nat.zero_le _, Nat.zero_le _⟩) hD hS hA (fun H locs hP hD hS => ?_)
              refine lv_if_eq (tgt := 116) hx hb dX6_reads_99 (by decide) (fun c99 => ?_) (fun c99 => ?_)
              · have hf := o_ip c99 hf
                obtain rfl := o_ret hf
                obtain rfl := lpK_l h14z
                exact K14_3 _ rfl _ _ _ hP hD hS (lv_sub hl [] rfl)
              · have hf := o_in c99 hf
                refine lv_aload_n hx hb dX6_reads_102 rfl (lv_at hl 2 rfl) ?_
                refine va_get (ci := 6) (v := .int (gI r36 5)) (C := RX6) (T := TX6) (N := 26) hx hb hts inlX6 hown hE.1 hP 0 rfl rfl 14 (by decide) (hts _ wB289) (fun _ h9 => h9) rfl dX6_reads_103 ?_
                refine lv_aload_n hx hb dX6_reads_106 rfl (lv_at hl 2 rfl) ?_
                refine va_get (ci := 6) (v := .int (gI r36 4)) (C := RX6) (T := TX6) (N := 26) hx hb hts inlX6 hown hE.1 hP 0 rfl rfl 10 (by decide) (hts _ wB291) (fun _ h9 => h9) rfl dX6_reads_107 ?_
                refine lv_iadd hx hb dX6_reads_110 ?_
                refine lv_bipush (v := 120) hx hb dX6_reads_111 (by decide) ?_
                refine lv_icmp_le (tgt := 118) hx hb dX6_reads_113 (by decide) (fun c113 => ?_) (fun c113 => ?_)
                · have hf := o_ip c113 hf
                  refine lv_iconst (v := 0) hx hb dX6_reads_118 (by decide) ?_
                  refine lv_istore_n (lv' := [(3, .int 0), (2, .int 0), (1, .int (gI s14 3)), (0, .ref (q 0))]) hx hb dX6_reads_119 rfl hl (by decide) rfl (fun ls hl => ?_)
                  have L120 : ∀ (n120v : Nat) (s120 : Int32 × KS) (e120 : KS), lpO (mX6_reads_s120 (gI s14 3) 0) n120v s120 = some e120 → ∀ (H : Heap) (locs : List Loc) (ls : Array Slot), va_P D vwCl (WM q cy s120.2 ++ rest) H → va_D A (WM q cy s120.2 ++ rest) → va_S A s.heap H locs → lv_has ls 4 [(0, .ref (q 0)), (1, .int (gI s14 3)), (2, .int 0), (3, .int s120.1)] → (∀ (H : Heap) (locs : List Loc) (ls : Array Slot), va_P D vwCl (WM q cy e120 ++ rest) H → va_D A (WM q cy e120 ++ rest) → va_S A s.heap H locs → lv_has ls 4 [(0, .ref (q 0))] → W p l e rmX6_reads s m ([.ref (q 0)] : List Value).toArray below meth c H locs 0 0 (MQ below (kQi D A res.1 (WM q cy res.2 ++ rest)) ([.ref (q 0)] : List Value).toArray s 0 0 A) (F0 m 164 ls [])) → W p l e rmX6_reads s m ([.ref (q 0)] : List Value).toArray below meth c H locs 0 0 (MQ below (kQi D A res.1 (WM q cy res.2 ++ rest)) ([.ref (q 0)] : List Value).toArray s 0 0 A) (F0 m 120 ls []) := by
                    intro n120v
                    induction n120v with
                    | zero => intro s120 e120 h; exact (lpO_z h).elim
                    | succ n120v ih120 =>
                      intro s120 e120 h120z H locs ls hP hD hS hl K120_0
                      obtain ⟨x120, hf, h120z⟩ := lpO_s h120z
                      unfold mX6_reads_s120 at hf
                      refine lv_iload_n hx hb dX6_reads_120 rfl (lv_at hl 3 rfl) ?_
                      refine lv_aload_n hx hb dX6_reads_121 rfl (lv_at hl 0 rfl) ?_
                      refine va_get (ci := 6) (v := .int (gI s120.2 4)) (C := RX6) (T := TX6) (N := 26) hx hb hts inlX6 hown hE.1 hP 0 rfl rfl 10 (by decide) (hts _ wB291) (fun _ h9 => h9) rfl dX6_reads_122 ?_
                      refine lv_icmp_ge (tgt := 164) hx hb dX6_reads_125 (by decide) (fun c125 => ?_) (fun c125 => ?_)
                      · have hf := o_ip c125 hf
                        obtain rfl := o_ret hf
                        obtain rfl := lpK_l h120z
                        exact K120_0 _ _ _ hP hD hS (lv_sub hl [0] rfl)
                      · have hf := o_in c125 hf
                        refine lv_aload_n hx hb dX6_reads_128 rfl (lv_at hl 0 rfl) ?_
                        refine va_get (ci := 6) (v := .ref (q 7)) (C := RX6) (T := TX6) (N := 26) hx hb hts inlX6 hown hE.1 hP 0 rfl rfl 11 (by decide) (hts _ wB90) (fun _ h9 => h9) rfl dX6_reads_129 ?_
                        refine lv_aload_n hx hb dX6_reads_132 rfl (lv_at hl 0 rfl) ?_
                        refine va_get (ci := 6) (v := .int (gI s120.2 5)) (C := RX6) (T := TX6) (N := 26) hx hb hts inlX6 hown hE.1 hP 0 rfl rfl 14 (by decide) (hts _ wB289) (fun _ h9 => h9) rfl dX6_reads_133 ?_
                        refine lv_iload_n hx hb dX6_reads_136 rfl (lv_at hl 1 rfl) ?_
                        obtain ⟨hg137, hf⟩ := gd_s hf
                        refine va_iast (f := (gR s120.2 6)) hx hb hE.1 hP hD hS 7 0 rfl rfl hg137 dX6_reads_137 (fun H locs hP hD hS => ?_)
                        have hP : va_P D vwCl (WM q cy (sR s120.2 6 (upd (gR s120.2 6) ((gI s120.2 5).toNatClampNeg) (gI s14 3))) ++ rest) H := hP
                        have hD : va_D A (WM q cy (sR s120.2 6 (upd (gR s120.2 6) ((gI s120.2 5).toNatClampNeg) (gI s14 3))) ++ rest) := hD
                        refine lv_aload_n hx hb dX6_reads_138 rfl (lv_at hl 0 rfl) ?_
                        refine va_get (ci := 6) (v := .ref (q 8)) (C := RX6) (T := TX6) (N := 26) hx hb hts inlX6 hown hE.1 hP 0 rfl rfl 12 (by decide) (hts _ wB91) (fun _ h9 => h9) rfl dX6_reads_139 ?_
                        refine lv_aload_n hx hb dX6_reads_142 rfl (lv_at hl 0 rfl) ?_
                        refine va_get (ci := 6) (v := .int (gI s120.2 5)) (C := RX6) (T := TX6) (N := 26) hx hb hts inlX6 hown hE.1 hP 0 rfl rfl 14 (by decide) (hts _ wB289) (fun _ h9 => h9) rfl dX6_reads_143 ?_
                        refine lv_iload_n hx hb dX6_reads_146 rfl (lv_at hl 2 rfl) ?_
                        obtain ⟨hg147, hf⟩ := gd_s hf
                        refine va_iast (f := (gR s120.2 7)) hx hb hE.1 hP hD hS 8 0 rfl rfl hg147 dX6_reads_147 (fun H locs hP hD hS => ?_)
                        have hQ : ∀ (xb : KS) (x0 : (Nat → Int32)) (xn : (Nat → Int32)), (WM q cy (sR xb 6 x0) ++ rest).set 8 (q 8, .inl (cy 0, 120, .inl xn)) = WM q cy (sR (sR xb 6 x0) 7 xn) ++ rest := fun _ _ _ => rfl
                        have hP : va_P D vwCl (WM q cy (sR (sR s120.2 6 (upd (gR s120.2 6) ((gI s120.2 5).toNatClampNeg) (gI s14 3))) 7 (upd (gR s120.2 7) ((gI s120.2 5).toNatClampNeg) 0)) ++ rest) H := k_wP (hQ s120.2 (upd (gR s120.2 6) ((gI s120.2 5).toNatClampNeg) (gI s14 3)) (upd (gR s120.2 7) ((gI s120.2 5).toNatClampNeg) 0)) hP
                        have hD : va_D A (WM q cy (sR (sR s120.2 6 (upd (gR s120.2 6) ((gI s120.2 5).toNatClampNeg) (gI s14 3))) 7 (upd (gR s120.2 7) ((gI s120.2 5).toNatClampNeg) 0)) ++ rest) := k_wD (hQ s120.2 (upd (gR s120.2 6) ((gI s120.2 5).toNatClampNeg) (gI s14 3)) (upd (gR s120.2 7) ((gI s120.2 5).toNatClampNeg) 0)) hD
                        clear hQ
                        refine lv_aload_n hx hb dX6_reads_148 rfl (lv_at hl 0 rfl) ?_
                        refine lv_dup hx hb dX6_reads_149 rfl ?_
                        refine va_get (ci := 6) (v := .int (gI s120.2 5)) (C := RX6) (T := TX6) (N := 26) hx hb hts inlX6 hown hE.1 hP 0 rfl rfl 14 (by decide) (hts _ wB289) (fun _ h9 => h9) rfl dX6_reads_150 ?_
                        refine lv_iconst (v := 1) hx hb dX6_reads_153 (by decide) ?_
                        refine lv_iadd hx hb dX6_reads_154 ?_
                        refine va_put (ci := 6) (v := .int ((gI s120.2 5) + 1)) (ty := .int) (C := RX6) (T := TX6) (N := 26) hx hb hts inlX6 tyX6 tyX6_ok nmX6 hown hE.1 hP hD hS 0 rfl rfl 14 (by decide) (hts _ wB289) (fun _ h9 => h9) rfl (by decide +kernel) rfl rfl (Nat.le_of_ble_eq_true rfl) dX6_reads_155 (fun H locs hP hD hS => ?_)
                        have hQ : ∀ (xb : KS) (x0 : (Nat → Int32)) (x1 : (Nat → Int32)) (xn : Int32), (WM q cy (sR (sR xb 6 x0) 7 x1) ++ rest).set 0 (q 0, .inr (6, [.ref (q 1), .ref (q 2), .ref (q 3), .ref (q 4), .int (gI (sR (sR xb 6 x0) 7 x1) 0), .ref (q 5), .ref (q 6), .int (gI (sR (sR xb 6 x0) 7 x1) 1), .int (gI (sR (sR xb 6 x0) 7 x1) 2), .int (gI (sR (sR xb 6 x0) 7 x1) 3), .int (gI (sR (sR xb 6 x0) 7 x1) 4), .ref (q 7), .ref (q 8), .ref (q 9), .int (gI (sR (sR xb 6 x0) 7 x1) 5), .ref (q 10), .int (gI (sR (sR xb 6 x0) 7 x1) 6), .int (gI (sR (sR xb 6 x0) 7 x1) 7), .int (gI (sR (sR xb 6 x0) 7 x1) 8), .int (gI (sR (sR xb 6 x0) 7 x1) 9), .ref (q 11), .long (gL (sR (sR xb 6 x0) 7 x1) 0), .ref (q 12), .ref (q 13), .ref (q 14), .int (gI (sR (sR xb 6 x0) 7 x1) 10)].set 14 (.int xn))) = WM q cy (sR (sR (sI xb 5 xn) 6 x0) 7 x1) ++ rest := fun _ _ _ _ => rfl
                        have hP : va_P D vwCl (WM q cy (sR (sR (sI s120.2 5 ((gI s120.2 5) + 1)) 6 (upd (gR s120.2 6) ((gI s120.2 5).toNatClampNeg) (gI s14 3))) 7 (upd (gR s120.2 7) ((gI s120.2 5).toNatClampNeg) 0)) ++ rest) H := k_wP (hQ s120.2 (upd (gR s120.2 6) ((gI s120.2 5).toNatClampNeg) (gI s14 3)) (upd (gR s120.2 7) ((gI s120.2 5).toNatClampNeg) 0) ((gI s120.2 5) + 1)) hP
                        have hD : va_D A (WM q cy (sR (sR (sI s120.2 5 ((gI s120.2 5) + 1)) 6 (upd (gR s120.2 6) ((gI s120.2 5).toNatClampNeg) (gI s14 3))) 7 (upd (gR s120.2 7) ((gI s120.2 5).toNatClampNeg) 0)) ++ rest) := k_wD (hQ s120.2 (upd (gR s120.2 6) ((gI s120.2 5).toNatClampNeg) (gI s14 3)) (upd (gR s120.2 7) ((gI s120.2 5).toNatClampNeg) 0) ((gI s120.2 5) + 1)) hD
                        clear hQ
                        refine lv_iinc (v := (s120.1 + 1)) (lv' := [(3, .int (s120.1 + 1)), (0, .ref (q 0)), (1, .int (gI s14 3)), (2, .int 0)]) hx hb dX6_reads_158 hl (k := 3) rfl (by rfl) (by decide) rfl (fun ls hl => ?_)
                        refine lv_goto (tgt := 120) hx hb dX6_reads_161 (by decide) ?_
                        obtain rfl := o_ret hf
                        exact ih120 _ _ (lpK_r h120z) _ _ _ hP hD hS (lv_sub hl [1, 2, 3, 0] rfl) K120_0
                  obtain ⟨e120, h120q, hf⟩ := o_bs hf
                  obtain ⟨n120v, h120q⟩ := lpF_ex h120q
                  refine L120 n120v _ e120 h120q _ _ _ hP hD hS (lv_sub hl [3, 2, 1, 0] rfl) ?_
                  intro H locs ls hP hD hS hl
                  refine lv_aload_n hx hb dX6_reads_164 rfl (lv_at hl 0 rfl) ?_
                  obtain ⟨r165, h165r, hf⟩ := o_bs hf
                  refine k_gov (va_runV (As := []) (rest := []) ⟨hx, hb, hml, hown, hts⟩ (zX6_scans l D cy sa q rest H.size e120  r165 h165r) (cwV 0 hts (gB_V wB294 wB295 wB296 wB5 wB297) rfl rfl rfl (by decide +kernel) ⟨Nat.le_of_ble_eq_true rfl, Nat.le_of_ble_eq_true rfl⟩) ⟨kP.blind, k_recv hE hP (ci := 6) (q0 := 0) rfl rfl, k_pre hP hD hS hE hA⟩ rfl rfl hl.1 rfl (lv_room (Nat.le_of_ble_eq_true rfl)) dX6_reads_165 ⟨Nat.zero_le _, Nat.zero_le _⟩) hD hS hA (fun H locs hP hD hS => ?_)
                  refine lv_aload_n hx hb dX6_reads_168 rfl (lv_at hl 0 rfl) ?_
                  refine va_get (ci := 6) (v := .int (gI r165 3)) (C := RX6) (T := TX6) (N := 26) hx hb hts inlX6 hown hE.1 hP 0 rfl rfl 9 (by decide) (hts _ wB290) (fun _ h9 => h9) rfl dX6_reads_169 ?_
                  refine lv_iconst (v := 3) hx hb dX6_reads_172 (by decide) ?_
                  refine lv_icmp_eq (tgt := 178) hx hb dX6_reads_173 (by decide) (fun c173 => ?_) (fun c173 => ?_)
                  · have hf := o_ip c173 hf
                    refine lv_aload_n hx hb dX6_reads_178 rfl (lv_at hl 0 rfl) ?_
                    obtain ⟨r179, h179r, hf⟩ := o_bs hf
                    refine k_gov (va_runV (As := []) (rest := []) ⟨hx, hb, hml, hown, hts⟩ (zX6_scans l D cy sa q rest H.size r165  r179 h179r) (cwV 0 hts (gB_V wB294 wB295 wB296 wB5 wB297) rfl rfl rfl (by decide +kernel) ⟨Nat.le_of_ble_eq_true rfl, Nat.le_of_ble_eq_true rfl⟩) ⟨kP.blind, k_recv hE hP (ci := 6) (q0 := 0) rfl rfl, k_pre hP hD hS hE hA⟩ rfl rfl hl.1 rfl (lv_room (Nat.le_of_ble_eq_true rfl)) dX6_reads_179 ⟨Nat.zero_le _, Nat.zero_le _⟩) hD hS hA (fun H locs hP hD hS => ?_)
                    refine lv_goto (tgt := 14) hx hb dX6_reads_182 (by decide) ?_
                    obtain rfl := o_ret hf
                    exact ih14 _ _ (lpK_r h14z) _ _ _ hP hD hS (lv_sub hl [0] rfl) K14_0 K14_1 K14_2 K14_3 K14_4
                  · have hf := o_in c173 hf
                    obtain rfl := o_ret hf
                    obtain rfl := lpK_l h14z
                    exact K14_4 _ rfl _ _ _ hP hD hS (lv_sub hl [] rfl)
                · have hf := o_in c113 hf
                  obtain rfl := o_ret hf
                  obtain rfl := lpK_l h14z
                  exact K14_3 _ rfl _ _ _ hP hD hS (lv_sub hl [] rfl)
          · have hf := o_ip c42 hf
            refine lv_aload_n hx hb dX6_reads_45 rfl (lv_at hl 2 rfl) ?_
            refine va_get (ci := 6) (v := .int (gI r36 3)) (C := RX6) (T := TX6) (N := 26) hx hb hts inlX6 hown hE.1 hP 0 rfl rfl 9 (by decide) (hts _ wB290) (fun _ h9 => h9) rfl dX6_reads_46 ?_
            refine lv_iconst (v := 2) hx hb dX6_reads_49 (by decide) ?_
            refine lv_icmp_ne (tgt := 68) hx hb dX6_reads_50 (by decide) (fun c50 => ?_) (fun c50 => ?_)
            · have hf := o_in c50 hf
              obtain rfl := o_ret hf
              obtain rfl := lpK_l h14z
              exact K14_2 _ rfl _ _ _ hP hD hS (lv_sub hl [] rfl)
            · have hf := o_ip c50 hf
              refine lv_aload_n hx hb dX6_reads_53 rfl (lv_at hl 2 rfl) ?_
              refine va_get (ci := 6) (v := .int (gI r36 4)) (C := RX6) (T := TX6) (N := 26) hx hb hts inlX6 hown hE.1 hP 0 rfl rfl 10 (by decide) (hts _ wB291) (fun _ h9 => h9) rfl dX6_reads_54 ?_
              refine lv_i2l (v := ((gI r36 4).toInt64)) hx hb dX6_reads_57 rfl ?_
              refine lv_lconst (v := 1) hx hb dX6_reads_58 (by decide) ?_
              refine lv_ldc2 (v := 9) hx hb hown (hts _ wB292) dX6_reads_59 ?_
              obtain ⟨r62, h62r, hf⟩ := o_bs hf
              refine k_goi (va_runS (As := [.long ((gI r36 4).toInt64), .long 1, .long 9]) (rest := []) ⟨hx, hb, hml, hown, hts⟩ (zX6_in l D cy sa (WM q cy r36 ++ rest) H.size ((gI r36 4).toInt64) 1 9  r62  h62r) (va_cwS 3 hts (gB_S wB141 wB142 wB5 wB143) rfl rfl rfl (by decide +kernel) ⟨Nat.le_of_ble_eq_true rfl, Nat.le_of_ble_eq_true rfl⟩) ⟨kP.blind, k_pre hP hD hS hE hA⟩ rfl rfl hl.1 rfl (lv_room (Nat.le_of_ble_eq_true rfl)) dX6_reads_62 ⟨Nat.zero_le _, Nat.zero_le _⟩) hD hS hA (fun H locs hP hD hS => ?_)
              refine lv_if_ne (tgt := 70) hx hb dX6_reads_65 (by decide) (fun c65 => ?_) (fun c65 => ?_)
              · have hf := o_in c65 hf
                refine lv_aload_n hx hb dX6_reads_70 rfl (lv_at hl 2 rfl) ?_
                refine va_get (ci := 6) (v := .int (gI r36 4)) (C := RX6) (T := TX6) (N := 26) hx hb hts inlX6 hown hE.1 hP 0 rfl rfl 10 (by decide) (hts _ wB291) (fun _ h9 => h9) rfl dX6_reads_71 ?_
                refine lv_istore_n (lv' := [(2, .int (gI r36 4)), (1, .int (gI s14 3)), (0, .ref (q 0))]) hx hb dX6_reads_74 rfl hl (by decide) rfl (fun ls hl => ?_)
                refine lv_aload_n hx hb dX6_reads_75 rfl (lv_at hl 2 rfl) ?_
                obtain ⟨r76, h76r, hf⟩ := o_bs hf
                refine k_gov (va_runV (As := []) (rest := []) ⟨hx, hb, hml, hown, hts⟩ (zX6_scans l D cy sa q rest H.size r36  r76 h76r) (cwV 0 hts (gB_V wB294 wB295 wB296 wB5 wB297) rfl rfl rfl (by decide +kernel) ⟨Nat.le_of_ble_eq_true rfl, Nat.le_of_ble_eq_true rfl⟩) ⟨kP.blind, k_recv hE hP (ci := 6) (q0 := 0) rfl rfl, k_pre hP hD hS hE hA⟩ rfl rfl hl.1 rfl (lv_room (Nat.le_of_ble_eq_true rfl)) dX6_reads_76 ⟨Nat.zero_le _, Nat.zero_le _⟩) hD hS hA (fun H locs hP hD hS => ?_)
                refine lv_aload_n hx hb dX6_reads_79 rfl (lv_at hl 2 rfl) ?_
                refine va_get (ci := 6) (v := .int (gI r76 3)) (C := RX6) (T := TX6) (N := 26) hx hb hts inlX6 hown hE.1 hP 0 rfl rfl 9 (by decide) (hts _ wB290) (fun _ h9 => h9) rfl dX6_reads_80 ?_
                refine lv_iconst (v := 2) hx hb dX6_reads_83 (by decide) ?_
                refine lv_icmp_ne (tgt := 116) hx hb dX6_reads_84 (by decide) (fun c84 => ?_) (fun c84 => ?_)
                · have hf := o_in c84 hf
                  obtain rfl := o_ret hf
                  obtain rfl := lpK_l h14z
                  exact K14_3 _ rfl _ _ _ hP hD hS (lv_sub hl [] rfl)
                · have hf := o_ip c84 hf
                  refine lv_aload_n hx hb dX6_reads_87 rfl (lv_at hl 2 rfl) ?_
                  refine va_get (ci := 6) (v := .int (gI r76 4)) (C := RX6) (T := TX6) (N := 26) hx hb hts inlX6 hown hE.1 hP 0 rfl rfl 10 (by decide) (hts _ wB291) (fun _ h9 => h9) rfl dX6_reads_88 ?_
                  refine lv_i2l (v := ((gI r76 4).toInt64)) hx hb dX6_reads_91 rfl ?_
                  refine lv_lconst (v := 1) hx hb dX6_reads_92 (by decide) ?_
                  refine lv_ldc2 (v := 60) hx hb hown (hts _ wB293) dX6_reads_93 ?_
                  obtain ⟨r96, h96r, hf⟩ := o_bs hf
                  refine k_goi (va_runS (As := [.long ((gI r76 4).toInt64), .long 1, .long 60]) (rest := []) ⟨hx, hb, hml, hown, hts⟩ (zX6_in l D cy sa (WM q cy r76 ++ rest) H.size ((gI r76 4).toInt64) 1 60  r96  h96r) (va_cwS 3 hts (gB_S wB141 wB142 wB5 wB143) rfl rfl rfl (by decide +kernel) ⟨Nat.le_of_ble_eq_true rfl, Nat.le_of_ble_eq_true rfl⟩) ⟨kP.blind, k_pre hP hD hS hE hA⟩ rfl rfl hl.1 rfl (lv_room (Nat.le_of_ble_eq_true rfl)) dX6_reads_96 ⟨Nat.zero_le _, Nat.zero_le _⟩) hD hS hA (fun H locs hP hD hS => ?_)
                  refine lv_if_eq (tgt := 116) hx hb dX6_reads_99 (by decide) (fun c99 => ?_) (fun c99 => ?_)
                  · have hf := o_ip c99 hf
                    obtain rfl := o_ret hf
                    obtain rfl := lpK_l h14z
                    exact K14_3 _ rfl _ _ _ hP hD hS (lv_sub hl [] rfl)
                  · have hf := o_in c99 hf
                    refine lv_aload_n hx hb dX6_reads_102 rfl (lv_at hl 2 rfl) ?_
                    refine va_get (ci := 6) (v := .int (gI r76 5)) (C := RX6) (T := TX6) (N := 26) hx hb hts inlX6 hown hE.1 hP 0 rfl rfl 14 (by decide) (hts _ wB289) (fun _ h9 => h9) rfl dX6_reads_103 ?_
                    refine lv_aload_n hx hb dX6_reads_106 rfl (lv_at hl 2 rfl) ?_
                    refine va_get (ci := 6) (v := .int (gI r76 4)) (C := RX6) (T := TX6) (N := 26) hx hb hts inlX6 hown hE.1 hP 0 rfl rfl 10 (by decide) (hts _ wB291) (fun _ h9 => h9) rfl dX6_reads_107 ?_
                    refine lv_iadd hx hb dX6_reads_110 ?_
                    refine lv_bipush (v := 120) hx hb dX6_reads_111 (by decide) ?_
                    refine lv_icmp_le (tgt := 118) hx hb dX6_reads_113 (by decide) (fun c113 => ?_) (fun c113 => ?_)
                    · have hf := o_ip c113 hf
                      refine lv_iconst (v := 0) hx hb dX6_reads_118 (by decide) ?_
                      refine lv_istore_n (lv' := [(3, .int 0), (2, .int (gI r36 4)), (1, .int (gI s14 3)), (0, .ref (q 0))]) hx hb dX6_reads_119 rfl hl (by decide) rfl (fun ls hl => ?_)
                      have L120 : ∀ (n120v : Nat) (s120 : Int32 × KS) (e120 : KS), lpO (mX6_reads_s120 (gI s14 3) (gI r36 4)) n120v s120 = some e120 → ∀ (H : Heap) (locs : List Loc) (ls : Array Slot), va_P D vwCl (WM q cy s120.2 ++ rest) H → va_D A (WM q cy s120.2 ++ rest) → va_S A s.heap H locs → lv_has ls 4 [(0, .ref (q 0)), (1, .int (gI s14 3)), (2, .int (gI r36 4)), (3, .int s120.1)] → (∀ (H : Heap) (locs : List Loc) (ls : Array Slot), va_P D vwCl (WM q cy e120 ++ rest) H → va_D A (WM q cy e120 ++ rest) → va_S A s.heap H locs → lv_has ls 4 [(0, .ref (q 0))] → W p l e rmX6_reads s m ([.ref (q 0)] : List Value).toArray below meth c H locs 0 0 (MQ below (kQi D A res.1 (WM q cy res.2 ++ rest)) ([.ref (q 0)] : List Value).toArray s 0 0 A) (F0 m 164 ls [])) → W p l e rmX6_reads s m ([.ref (q 0)] : List Value).toArray below meth c H locs 0 0 (MQ below (kQi D A res.1 (WM q cy res.2 ++ rest)) ([.ref (q 0)] : List Value).toArray s 0 0 A) (F0 m 120 ls []) := by
                        intro n120v
                        induction n120v with
                        | zero => intro s120 e120 h; exact (lpO_z h).elim
                        | succ n120v ih120 =>
                          intro s120 e120 h120z H locs ls hP hD hS hl K120_0
                          obtain ⟨x120, hf, h120z⟩ := lpO_s h120z
                          unfold mX6_reads_s120 at hf
                          refine lv_iload_n hx hb dX6_reads_120 rfl (lv_at hl 3 rfl) ?_
                          refine lv_aload_n hx hb dX6_reads_121 rfl (lv_at hl 0 rfl) ?_
                          refine va_get (ci := 6) (v := .int (gI s120.2 4)) (C := RX6) (T := TX6) (N := 26) hx hb hts inlX6 hown hE.1 hP 0 rfl rfl 10 (by decide) (hts _ wB291) (fun _ h9 => h9) rfl dX6_reads_122 ?_
                          refine lv_icmp_ge (tgt := 164) hx hb dX6_reads_125 (by decide) (fun c125 => ?_) (fun c125 => ?_)
                          · have hf := o_ip c125 hf
                            obtain rfl := o_ret hf
                            obtain rfl := lpK_l h120z
                            exact K120_0 _ _ _ hP hD hS (lv_sub hl [0] rfl)
                          · have hf := o_in c125 hf
                            refine lv_aload_n hx hb dX6_reads_128 rfl (lv_at hl 0 rfl) ?_
                            refine va_get (ci := 6) (v := .ref (q 7)) (C := RX6) (T := TX6) (N := 26) hx hb hts inlX6 hown hE.1 hP 0 rfl rfl 11 (by decide) (hts _ wB90) (fun _ h9 => h9) rfl dX6_reads_129 ?_
                            refine lv_aload_n hx hb dX6_reads_132 rfl (lv_at hl 0 rfl) ?_
                            refine va_get (ci := 6) (v := .int (gI s120.2 5)) (C := RX6) (T := TX6) (N := 26) hx hb hts inlX6 hown hE.1 hP 0 rfl rfl 14 (by decide) (hts _ wB289) (fun _ h9 => h9) rfl dX6_reads_133 ?_
                            refine lv_iload_n hx hb dX6_reads_136 rfl (lv_at hl 1 rfl) ?_
                            obtain ⟨hg137, hf⟩ := gd_s hf
                            refine va_iast (f := (gR s120.2 6)) hx hb hE.1 hP hD hS 7 0 rfl rfl hg137 dX6_reads_137 (fun H locs hP hD hS => ?_)
                            have hP : va_P D vwCl (WM q cy (sR s120.2 6 (upd (gR s120.2 6) ((gI s120.2 5).toNatClampNeg) (gI s14 3))) ++ rest) H := hP
                            have hD : va_D A (WM q cy (sR s120.2 6 (upd (gR s120.2 6) ((gI s120.2 5).toNatClampNeg) (gI s14 3))) ++ rest) := hD
                            refine lv_aload_n hx hb dX6_reads_138 rfl (lv_at hl 0 rfl) ?_
                            refine va_get (ci := 6) (v := .ref (q 8)) (C := RX6) (T := TX6) (N := 26) hx hb hts inlX6 hown hE.1 hP 0 rfl rfl 12 (by decide) (hts _ wB91) (fun _ h9 => h9) rfl dX6_reads_139 ?_
                            refine lv_aload_n hx hb dX6_reads_142 rfl (lv_at hl 0 rfl) ?_
                            refine va_get (ci := 6) (v := .int (gI s120.2 5)) (C := RX6) (T := TX6) (N := 26) hx hb hts inlX6 hown hE.1 hP 0 rfl rfl 14 (by decide) (hts _ wB289) (fun _ h9 => h9) rfl dX6_reads_143 ?_
                            refine lv_iload_n hx hb dX6_reads_146 rfl (lv_at hl 2 rfl) ?_
                            obtain ⟨hg147, hf⟩ := gd_s hf
                            refine va_iast (f := (gR s120.2 7)) hx hb hE.1 hP hD hS 8 0 rfl rfl hg147 dX6_reads_147 (fun H locs hP hD hS => ?_)
                            have hQ : ∀ (xb : KS) (x0 : (Nat → Int32)) (xn : (Nat → Int32)), (WM q cy (sR xb 6 x0) ++ rest).set 8 (q 8, .inl (cy 0, 120, .inl xn)) = WM q cy (sR (sR xb 6 x0) 7 xn) ++ rest := fun _ _ _ => rfl
                            have hP : va_P D vwCl (WM q cy (sR (sR s120.2 6 (upd (gR s120.2 6) ((gI s120.2 5).toNatClampNeg) (gI s14 3))) 7 (upd (gR s120.2 7) ((gI s120.2 5).toNatClampNeg) (gI r36 4))) ++ rest) H := k_wP (hQ s120.2 (upd (gR s120.2 6) ((gI s120.2 5).toNatClampNeg) (gI s14 3)) (upd (gR s120.2 7) ((gI s120.2 5).toNatClampNeg) (gI r36 4))) hP
                            have hD : va_D A (WM q cy (sR (sR s120.2 6 (upd (gR s120.2 6) ((gI s120.2 5).toNatClampNeg) (gI s14 3))) 7 (upd (gR s120.2 7) ((gI s120.2 5).toNatClampNeg) (gI r36 4))) ++ rest) := k_wD (hQ s120.2 (upd (gR s120.2 6) ((gI s120.2 5).toNatClampNeg) (gI s14 3)) (upd (gR s120.2 7) ((gI s120.2 5).toNatClampNeg) (gI r36 4))) hD
                            clear hQ
                            refine lv_aload_n hx hb dX6_reads_148 rfl (lv_at hl 0 rfl) ?_
                            refine lv_dup hx hb dX6_reads_149 rfl ?_
                            refine va_get (ci := 6) (v := .int (gI s120.2 5)) (C := RX6) (T := TX6) (N := 26) hx hb hts inlX6 hown hE.1 hP 0 rfl rfl 14 (by decide) (hts _ wB289) (fun _ h9 => h9) rfl dX6_reads_150 ?_
                            refine lv_iconst (v := 1) hx hb dX6_reads_153 (by decide) ?_
                            refine lv_iadd hx hb dX6_reads_154 ?_
                            refine va_put (ci := 6) (v := .int ((gI s120.2 5) + 1)) (ty := .int) (C := RX6) (T := TX6) (N := 26) hx hb hts inlX6 tyX6 tyX6_ok nmX6 hown hE.1 hP hD hS 0 rfl rfl 14 (by decide) (hts _ wB289) (fun _ h9 => h9) rfl (by decide +kernel) rfl rfl (Nat.le_of_ble_eq_true rfl) dX6_reads_155 (fun H locs hP hD hS => ?_)
                            have hQ : ∀ (xb : KS) (x0 : (Nat → Int32)) (x1 : (Nat → Int32)) (xn : Int32), (WM q cy (sR (sR xb 6 x0) 7 x1) ++ rest).set 0 (q 0, .inr (6, [.ref (q 1), .ref (q 2), .ref (q 3), .ref (q 4), .int (gI (sR (sR xb 6 x0) 7 x1) 0), .ref (q 5), .ref (q 6), .int (gI (sR (sR xb 6 x0) 7 x1) 1), .int (gI (sR (sR xb 6 x0) 7 x1) 2), .int (gI (sR (sR xb 6 x0) 7 x1) 3), .int (gI (sR (sR xb 6 x0) 7 x1) 4), .ref (q 7), .ref (q 8), .ref (q 9), .int (gI (sR (sR xb 6 x0) 7 x1) 5), .ref (q 10), .int (gI (sR (sR xb 6 x0) 7 x1) 6), .int (gI (sR (sR xb 6 x0) 7 x1) 7), .int (gI (sR (sR xb 6 x0) 7 x1) 8), .int (gI (sR (sR xb 6 x0) 7 x1) 9), .ref (q 11), .long (gL (sR (sR xb 6 x0) 7 x1) 0), .ref (q 12), .ref (q 13), .ref (q 14), .int (gI (sR (sR xb 6 x0) 7 x1) 10)].set 14 (.int xn))) = WM q cy (sR (sR (sI xb 5 xn) 6 x0) 7 x1) ++ rest := fun _ _ _ _ => rfl
                            have hP : va_P D vwCl (WM q cy (sR (sR (sI s120.2 5 ((gI s120.2 5) + 1)) 6 (upd (gR s120.2 6) ((gI s120.2 5).toNatClampNeg) (gI s14 3))) 7 (upd (gR s120.2 7) ((gI s120.2 5).toNatClampNeg) (gI r36 4))) ++ rest) H := k_wP (hQ s120.2 (upd (gR s120.2 6) ((gI s120.2 5).toNatClampNeg) (gI s14 3)) (upd (gR s120.2 7) ((gI s120.2 5).toNatClampNeg) (gI r36 4)) ((gI s120.2 5) + 1)) hP
                            have hD : va_D A (WM q cy (sR (sR (sI s120.2 5 ((gI s120.2 5) + 1)) 6 (upd (gR s120.2 6) ((gI s120.2 5).toNatClampNeg) (gI s14 3))) 7 (upd (gR s120.2 7) ((gI s120.2 5).toNatClampNeg) (gI r36 4))) ++ rest) := k_wD (hQ s120.2 (upd (gR s120.2 6) ((gI s120.2 5).toNatClampNeg) (gI s14 3)) (upd (gR s120.2 7) ((gI s120.2 5).toNatClampNeg) (gI r36 4)) ((gI s120.2 5) + 1)) hD
                            clear hQ
                            refine lv_iinc (v := (s120.1 + 1)) (lv' := [(3, .int (s120.1 + 1)), (0, .ref (q 0)), (1, .int (gI s14 3)), (2, .int (gI r36 4))]) hx hb dX6_reads_158 hl (k := 3) rfl (by rfl) (by decide) rfl (fun ls hl => ?_)
                            refine lv_goto (tgt := 120) hx hb dX6_reads_161 (by decide) ?_
                            obtain rfl := o_ret hf
                            exact ih120 _ _ (lpK_r h120z) _ _ _ hP hD hS (lv_sub hl [1, 2, 3, 0] rfl) K120_0
                      obtain ⟨e120, h120q, hf⟩ := o_bs hf
                      obtain ⟨n120v, h120q⟩ := lpF_ex h120q
                      refine L120 n120v _ e120 h120q _ _ _ hP hD hS (lv_sub hl [3, 2, 1, 0] rfl) ?_
                      intro H locs ls hP hD hS hl
                      refine lv_aload_n hx hb dX6_reads_164 rfl (lv_at hl 0 rfl) ?_
                      obtain ⟨r165, h165r, hf⟩ := o_bs hf
                      refine k_gov (va_runV (As := []) (rest := []) ⟨hx, hb, hml, hown, hts⟩ (zX6_scans l D cy sa q rest H.size e120  r165 h165r) (cwV 0 hts (gB_V wB294 wB295 wB296 wB5 wB297) rfl rfl rfl (by decide +kernel) ⟨Nat.le_of_ble_eq_true rfl, Nat.le_of_ble_eq_true rfl⟩) ⟨kP.blind, k_recv hE hP (ci := 6) (q0 := 0) rfl rfl, k_pre hP hD hS hE hA⟩ rfl rfl hl.1 rfl (lv_room (Nat.le_of_ble_eq_true rfl)) dX6_reads_165 ⟨Nat.zero_le _, Nat.zero_le _⟩) hD hS hA (fun H locs hP hD hS => ?_)
                      refine lv_aload_n hx hb dX6_reads_168 rfl (lv_at hl 0 rfl) ?_
                      refine va_get (ci := 6) (v := .int (gI r165 3)) (C := RX6) (T := TX6) (N := 26) hx hb hts inlX6 hown hE.1 hP 0 rfl rfl 9 (by decide) (hts _ wB290) (fun _ h9 => h9) rfl dX6_reads_169 ?_
                      refine lv_iconst (v := 3) hx hb dX6_reads_172 (by decide) ?_
                      refine lv_icmp_eq (tgt := 178) hx hb dX6_reads_173 (by decide) (fun c173 => ?_) (fun c173 => ?_)
                      · have hf := o_ip c173 hf
                        refine lv_aload_n hx hb dX6_reads_178 rfl (lv_at hl 0 rfl) ?_
                        obtain ⟨r179, h179r, hf⟩ := o_bs hf
                        refine k_gov (va_runV (As := []) (rest := []) ⟨hx, hb, hml, hown, hts⟩ (zX6_scans l D cy sa q rest H.size r165  r179 h179r) (cwV 0 hts (gB_V wB294 wB295 wB296 wB5 wB297) rfl rfl rfl (by decide +kernel) ⟨Nat.le_of_ble_eq_true rfl, Nat.le_of_ble_eq_true rfl⟩) ⟨kP.blind, k_recv hE hP (ci := 6) (q0 := 0) rfl rfl, k_pre hP hD hS hE hA⟩ rfl rfl hl.1 rfl (lv_room (Nat.le_of_ble_eq_true rfl)) dX6_reads_179 ⟨Nat.zero_le _, Nat.zero_le _⟩) hD hS hA (fun H locs hP hD hS => ?_)
                        refine lv_goto (tgt := 14) hx hb dX6_reads_182 (by decide) ?_
                        obtain rfl := o_ret hf
                        exact ih14 _ _ (lpK_r h14z) _ _ _ hP hD hS (lv_sub hl [0] rfl) K14_0 K14_1 K14_2 K14_3 K14_4
                      · have hf := o_in c173 hf
                        obtain rfl := o_ret hf
                        obtain rfl := lpK_l h14z
                        exact K14_4 _ rfl _ _ _ hP hD hS (lv_sub hl [] rfl)
                    · have hf := o_in c113 hf
                      obtain rfl := o_ret hf
                      obtain rfl := lpK_l h14z
                      exact K14_3 _ rfl _ _ _ hP hD hS (lv_sub hl [] rfl)
              · have hf := o_ip c65 hf
                obtain rfl := o_ret hf
                obtain rfl := lpK_l h14z
                exact K14_2 _ rfl _ _ _ hP hD hS (lv_sub hl [] rfl)
        · have hf := o_in c30 hf
          obtain rfl := o_ret hf
          obtain rfl := lpK_l h14z
          exact K14_1 _ rfl _ _ _ hP hD hS (lv_sub hl [] rfl)
  obtain ⟨e14, h14q, hf⟩ := o_bs hf
  obtain ⟨n14v, h14q⟩ := lpF_ex h14q
  refine L14 n14v _ e14 h14q _ _ _ hP hD hS (lv_sub hl [0] rfl) ?_ ?_ ?_ ?_ ?_
  · intro e14_0 ez14 H locs ls hP hD hS hl
    subst ez14
    have hf := oE_l hf
    refine lv_iconst (v := 1) hx hb dX6_reads_185 (by decide) ?_
    obtain rfl := o_ret hf
    exact k_zret (v := 1) hx hb hr hP hD hS rfl (Nat.zero_le _) (Nat.zero_le _) hlocks dX6_reads_186
  · intro e14_1 ez14 H locs ls hP hD hS hl
    subst ez14
    have hf := oE_r hf
    have hf := oE_l hf
    refine lv_iconst (v := 0) hx hb dX6_reads_33 (by decide) ?_
    obtain rfl := o_ret hf
    exact k_zret (v := 0) hx hb hr hP hD hS rfl (Nat.zero_le _) (Nat.zero_le _) hlocks dX6_reads_34
  · intro e14_2 ez14 H locs ls hP hD hS hl
    subst ez14
    have hf := oE_r hf
    have hf := oE_r hf
    have hf := oE_l hf
    refine lv_iconst (v := 0) hx hb dX6_reads_68 (by decide) ?_
    obtain rfl := o_ret hf
    exact k_zret (v := 0) hx hb hr hP hD hS rfl (Nat.zero_le _) (Nat.zero_le _) hlocks dX6_reads_69
  · intro e14_3 ez14 H locs ls hP hD hS hl
    subst ez14
    have hf := oE_r hf
    have hf := oE_r hf
    have hf := oE_r hf
    have hf := oE_l hf
    refine lv_iconst (v := 0) hx hb dX6_reads_116 (by decide) ?_
    obtain rfl := o_ret hf
    exact k_zret (v := 0) hx hb hr hP hD hS rfl (Nat.zero_le _) (Nat.zero_le _) hlocks dX6_reads_117
  · intro e14_4 ez14 H locs ls hP hD hS hl
    subst ez14
    have hf := oE_r hf
    have hf := oE_r hf
    have hf := oE_r hf
    have hf := oE_r hf
    refine lv_iconst (v := 0) hx hb dX6_reads_176 (by decide) ?_
    obtain rfl := o_ret hf
    exact k_zret (v := 0) hx hb hr hP hD hS rfl (Nat.zero_le _) (Nat.zero_le _) hlocks dX6_reads_177
noncomputable def mX6_faulty (u : KS) : Option (Int32 × KS) :=
  (mX6_reads u).bind fun r1 =>
  if r1.1 = 0 then
  (some ((gI r1.2 2), r1.2))
  else
  (some ((-1), r1.2))
abbrev rmX6_faulty : Room := { frames := 4, cells := 0, slots := 0, locals := 92 }
set_option maxRecDepth 100000 in
set_option maxHeartbeats 4000000 in
theorem zX6_faulty (l : Launch) (D : va_G) (cy : Nat → ClassId) (sa : Nat → Nat) (q : Nat → Nat) (rest : va_W) (sz : Nat) (u : KS) (res : Int32 × KS) (hf : mX6_faulty u = some res) : kMi l yX6_faulty (wsK yX6_faulty cX6_faulty 1 (some .int)) rmX6_faulty D cy sa (WM q cy u ++ rest) sz [.ref (q 0)] res.1 (WM q cy res.2 ++ rest) 0 0 := by
  refine kM_of (Qc := fun A => kQi D A res.1 (WM q cy res.2 ++ rest)) (cc := cX6_faulty) (maxL := 1) (ret := (some .int)) (by decide) (Nat.le_of_ble_eq_true rfl) ?_
  intro p e s m below meth c A hx hb hml hr hts hown hlocks hin hA hP hD hS hE hsz ls hl
  have hown : s.vm.findClass RX6 = some m.cls := hown
  obtain ⟨H, hH0⟩ : ∃ H, H = s.heap := ⟨_, rfl⟩
  obtain ⟨locs, hlocs0⟩ : ∃ locs : List Loc, locs = [] := ⟨_, rfl⟩
  have hP : va_P D vwCl (WM q cy u ++ rest) H := by rw [hH0]; exact hP
  have hS : va_S A s.heap H locs := by rw [hH0, hlocs0]; exact hS
  have hl : lv_has ls 1 [(0, .ref (q 0))] := hl
  suffices hgoal : W p l e rmX6_faulty s m ([.ref (q 0)] : List Value).toArray below meth c H locs 0 0 (MQ below (kQi D A res.1 (WM q cy res.2 ++ rest)) ([.ref (q 0)] : List Value).toArray s 0 0 A) (F0 m 0 ls []) by rw [hH0, hlocs0] at hgoal; exact hgoal
  clear hH0 hlocs0
  unfold mX6_faulty at hf
  refine lv_aload_n hx hb dX6_faulty_0 rfl (lv_at hl 0 rfl) ?_
  obtain ⟨r1, h1r, hf⟩ := o_bs hf
  refine k_goi (va_runV (As := []) (rest := []) ⟨hx, hb, hml, hown, hts⟩ (zX6_reads l D cy sa q rest H.size u  r1 h1r) (cwV 0 hts (gB_V wB284 wB285 wB286 wB5 wB287) rfl rfl rfl (by decide +kernel) ⟨Nat.le_of_ble_eq_true rfl, Nat.le_of_ble_eq_true rfl⟩) ⟨kP.blind, k_recv hE hP (ci := 6) (q0 := 0) rfl rfl, k_pre hP hD hS hE hA⟩ rfl rfl hl.1 rfl (lv_room (Nat.le_of_ble_eq_true rfl)) dX6_faulty_1 ⟨Nat.zero_le _, Nat.zero_le _⟩) hD hS hA (fun H locs hP hD hS => ?_)
  refine lv_if_eq (tgt := 11) hx hb dX6_faulty_4 (by decide) (fun c4 => ?_) (fun c4 => ?_)
  · have hf := o_ip c4 hf
    refine lv_aload_n hx hb dX6_faulty_11 rfl (lv_at hl 0 rfl) ?_
    refine va_get (ci := 6) (v := .int (gI r1.2 2)) (C := RX6) (T := TX6) (N := 26) hx hb hts inlX6 hown hE.1 hP 0 rfl rfl 8 (by decide) (hts _ wB283) (fun _ h9 => h9) rfl dX6_faulty_12 ?_
    obtain rfl := o_ret hf
    exact k_iret hx hb hr hP hD hS (Nat.zero_le _) (Nat.zero_le _) hlocks dX6_faulty_15
  · have hf := o_in c4 hf
    refine lv_iconst (v := (-1)) hx hb dX6_faulty_7 (by decide) ?_
    refine lv_goto (tgt := 15) hx hb dX6_faulty_8 (by decide) ?_
    obtain rfl := o_ret hf
    exact k_iret hx hb hr hP hD hS (Nat.zero_le _) (Nat.zero_le _) hlocks dX6_faulty_15
noncomputable def mX6_forget (u : KS) : Option (Int32 × KS) :=
  (mX6_puts u 1 0).bind fun r3 =>
  some (r3.1, r3.2)
abbrev rmX6_forget : Room := { frames := 1, cells := 0, slots := 0, locals := 23 }
set_option maxRecDepth 100000 in
set_option maxHeartbeats 4000000 in
theorem zX6_forget (l : Launch) (D : va_G) (cy : Nat → ClassId) (sa : Nat → Nat) (q : Nat → Nat) (rest : va_W) (sz : Nat) (u : KS) (res : Int32 × KS) (hf : mX6_forget u = some res) : kMi l yX6_forget (wsK yX6_forget cX6_forget 1 (some .int)) rmX6_forget D cy sa (WM q cy u ++ rest) sz [.ref (q 0)] res.1 (WM q cy res.2 ++ rest) 0 0 := by
  refine kM_of (Qc := fun A => kQi D A res.1 (WM q cy res.2 ++ rest)) (cc := cX6_forget) (maxL := 1) (ret := (some .int)) (by decide) (Nat.le_of_ble_eq_true rfl) ?_
  intro p e s m below meth c A hx hb hml hr hts hown hlocks hin hA hP hD hS hE hsz ls hl
  have hown : s.vm.findClass RX6 = some m.cls := hown
  obtain ⟨H, hH0⟩ : ∃ H, H = s.heap := ⟨_, rfl⟩
  obtain ⟨locs, hlocs0⟩ : ∃ locs : List Loc, locs = [] := ⟨_, rfl⟩
  have hP : va_P D vwCl (WM q cy u ++ rest) H := by rw [hH0]; exact hP
  have hS : va_S A s.heap H locs := by rw [hH0, hlocs0]; exact hS
  have hl : lv_has ls 1 [(0, .ref (q 0))] := hl
  suffices hgoal : W p l e rmX6_forget s m ([.ref (q 0)] : List Value).toArray below meth c H locs 0 0 (MQ below (kQi D A res.1 (WM q cy res.2 ++ rest)) ([.ref (q 0)] : List Value).toArray s 0 0 A) (F0 m 0 ls []) by rw [hH0, hlocs0] at hgoal; exact hgoal
  clear hH0 hlocs0
  unfold mX6_forget at hf
  refine lv_aload_n hx hb dX6_forget_0 rfl (lv_at hl 0 rfl) ?_
  refine lv_iconst (v := 1) hx hb dX6_forget_1 (by decide) ?_
  refine lv_iconst (v := 0) hx hb dX6_forget_2 (by decide) ?_
  obtain ⟨r3, h3r, hf⟩ := o_bs hf
  refine k_goi (va_runV (As := [.int 1, .int 0]) (rest := []) ⟨hx, hb, hml, hown, hts⟩ (zX6_puts l D cy sa q rest H.size u 1 0 r3 h3r) (cwV 2 hts (gB_V wB164 wB165 wB166 wB5 wB167) rfl rfl rfl (by decide +kernel) ⟨Nat.le_of_ble_eq_true rfl, Nat.le_of_ble_eq_true rfl⟩) ⟨kP.blind, k_recv hE hP (ci := 6) (q0 := 0) rfl rfl, k_pre hP hD hS hE hA⟩ rfl rfl hl.1 rfl (lv_room (Nat.le_of_ble_eq_true rfl)) dX6_forget_3 ⟨Nat.zero_le _, Nat.zero_le _⟩) hD hS hA (fun H locs hP hD hS => ?_)
  obtain rfl := o_ret hf
  exact k_iret hx hb hr hP hD hS (Nat.zero_le _) (Nat.zero_le _) hlocks dX6_forget_6
noncomputable def mX6_no (u : KS) : Option (Int32 × KS) :=
  (mX6_refuses u 1 (-3)).bind fun r4 =>
  some (r4.1, r4.2)
abbrev rmX6_no : Room := { frames := 1, cells := 0, slots := 0, locals := 22 }
set_option maxRecDepth 100000 in
set_option maxHeartbeats 4000000 in
theorem zX6_no (l : Launch) (D : va_G) (cy : Nat → ClassId) (sa : Nat → Nat) (q : Nat → Nat) (rest : va_W) (sz : Nat) (u : KS) (res : Int32 × KS) (hf : mX6_no u = some res) : kMi l yX6_no (wsK yX6_no cX6_no 1 (some .int)) rmX6_no D cy sa (WM q cy u ++ rest) sz [.ref (q 0)] res.1 (WM q cy res.2 ++ rest) 0 0 := by
  refine kM_of (Qc := fun A => kQi D A res.1 (WM q cy res.2 ++ rest)) (cc := cX6_no) (maxL := 1) (ret := (some .int)) (by decide) (Nat.le_of_ble_eq_true rfl) ?_
  intro p e s m below meth c A hx hb hml hr hts hown hlocks hin hA hP hD hS hE hsz ls hl
  have hown : s.vm.findClass RX6 = some m.cls := hown
  obtain ⟨H, hH0⟩ : ∃ H, H = s.heap := ⟨_, rfl⟩
  obtain ⟨locs, hlocs0⟩ : ∃ locs : List Loc, locs = [] := ⟨_, rfl⟩
  have hP : va_P D vwCl (WM q cy u ++ rest) H := by rw [hH0]; exact hP
  have hS : va_S A s.heap H locs := by rw [hH0, hlocs0]; exact hS
  have hl : lv_has ls 1 [(0, .ref (q 0))] := hl
  suffices hgoal : W p l e rmX6_no s m ([.ref (q 0)] : List Value).toArray below meth c H locs 0 0 (MQ below (kQi D A res.1 (WM q cy res.2 ++ rest)) ([.ref (q 0)] : List Value).toArray s 0 0 A) (F0 m 0 ls []) by rw [hH0, hlocs0] at hgoal; exact hgoal
  clear hH0 hlocs0
  unfold mX6_no at hf
  refine lv_aload_n hx hb dX6_no_0 rfl (lv_at hl 0 rfl) ?_
  refine lv_iconst (v := 1) hx hb dX6_no_1 (by decide) ?_
  refine lv_bipush (v := (-3)) hx hb dX6_no_2 (by decide) ?_
  obtain ⟨r4, h4r, hf⟩ := o_bs hf
  refine k_goi (va_runV (As := [.int 1, .int (-3)]) (rest := []) ⟨hx, hb, hml, hown, hts⟩ (zX6_refuses l D cy sa q rest H.size u 1 (-3) r4 h4r) (cwV 2 hts (gB_V wB148 wB149 wB150 wB5 wB151) rfl rfl rfl (by decide +kernel) ⟨Nat.le_of_ble_eq_true rfl, Nat.le_of_ble_eq_true rfl⟩) ⟨kP.blind, k_recv hE hP (ci := 6) (q0 := 0) rfl rfl, k_pre hP hD hS hE hA⟩ rfl rfl hl.1 rfl (lv_room (Nat.le_of_ble_eq_true rfl)) dX6_no_4 ⟨Nat.zero_le _, Nat.zero_le _⟩) hD hS hA (fun H locs hP hD hS => ?_)
  obtain rfl := o_ret hf
  exact k_iret hx hb hr hP hD hS (Nat.zero_le _) (Nat.zero_le _) hlocks dX6_no_7
noncomputable def mX6_from_s31 (c1 : Int32) (s31 : Int32 × KS) : Option ((KS) ⊕ (Int32 × KS)) :=
  if 200 ≤ s31.1 then
  (some (.inl s31.2))
  else
  (gd (inb ((200 * c1) + s31.1) 400) (gd (inb s31.1 200) (some (.inr ((s31.1 + 1), (sR s31.2 0 (upd (gR s31.2 0) (s31.1.toNatClampNeg) ((gR s31.2 1) (((200 * c1) + s31.1).toNatClampNeg)))))))))
noncomputable def mX6_from (u : KS) (a1 : Int32) : Option (Int32 × KS) :=
  (mX6_in (a1.toInt64) 0 1).bind fun r4 =>
  if r4 = 0 then
  ((mX6_bad u).bind fun r11 =>
  some (r11.1, r11.2))
  else
  (gd (inb a1 2) (if ((gR u 2) (a1.toNatClampNeg)) = 0 then
  ((mX6_no u).bind fun r25 =>
  some (r25.1, r25.2))
  else
  ((lpF (mX6_from_s31 a1) (0, u)).bind fun e31 =>
  some (1, e31))))
abbrev rmX6_from : Room := { frames := 2, cells := 0, slots := 0, locals := 42 }
set_option maxRecDepth 100000 in
set_option maxHeartbeats 4000000 in
theorem zX6_from (l : Launch) (D : va_G) (cy : Nat → ClassId) (sa : Nat → Nat) (q : Nat → Nat) (rest : va_W) (sz : Nat) (u : KS) (a1 : Int32) (res : Int32 × KS) (hf : mX6_from u a1 = some res) : kMi l yX6_from (wsK yX6_from cX6_from 3 (some .int)) rmX6_from D cy sa (WM q cy u ++ rest) sz [.ref (q 0), .int a1] res.1 (WM q cy res.2 ++ rest) 0 0 := by
  refine kM_of (Qc := fun A => kQi D A res.1 (WM q cy res.2 ++ rest)) (cc := cX6_from) (maxL := 3) (ret := (some .int)) (by decide) (Nat.le_of_ble_eq_true rfl) ?_
  intro p e s m below meth c A hx hb hml hr hts hown hlocks hin hA hP hD hS hE hsz ls hl
  have hown : s.vm.findClass RX6 = some m.cls := hown
  obtain ⟨H, hH0⟩ : ∃ H, H = s.heap := ⟨_, rfl⟩
  obtain ⟨locs, hlocs0⟩ : ∃ locs : List Loc, locs = [] := ⟨_, rfl⟩
  have hP : va_P D vwCl (WM q cy u ++ rest) H := by rw [hH0]; exact hP
  have hS : va_S A s.heap H locs := by rw [hH0, hlocs0]; exact hS
  have hl : lv_has ls 3 [(0, .ref (q 0)), (1, .int a1)] := hl
  suffices hgoal : W p l e rmX6_from s m ([.ref (q 0), .int a1] : List Value).toArray below meth c H locs 0 0 (MQ below (kQi D A res.1 (WM q cy res.2 ++ rest)) ([.ref (q 0), .int a1] : List Value).toArray s 0 0 A) (F0 m 0 ls []) by rw [hH0, hlocs0] at hgoal; exact hgoal
  clear hH0 hlocs0
  unfold mX6_from at hf
  refine lv_iload_n hx hb dX6_from_0 rfl (lv_at hl 1 rfl) ?_
  refine lv_i2l (v := (a1.toInt64)) hx hb dX6_from_1 rfl ?_
  refine lv_lconst (v := 0) hx hb dX6_from_2 (by decide) ?_
  refine lv_lconst (v := 1) hx hb dX6_from_3 (by decide) ?_
  obtain ⟨r4, h4r, hf⟩ := o_bs hf
  refine k_goi (va_runS (As := [.long (a1.toInt64), .long 0, .long 1]) (rest := []) ⟨hx, hb, hml, hown, hts⟩ (zX6_in l D cy sa (WM q cy u ++ rest) H.size (a1.toInt64) 0 1  r4  h4r) (va_cwS 3 hts (gB_S wB141 wB142 wB5 wB143) rfl rfl rfl (by decide +kernel) ⟨Nat.le_of_ble_eq_true rfl, Nat.le_of_ble_eq_true rfl⟩) ⟨kP.blind, k_pre hP hD hS hE hA⟩ rfl rfl hl.1 rfl (lv_room (Nat.le_of_ble_eq_true rfl)) dX6_from_4 ⟨Nat.zero_le _, Nat.zero_le _⟩) hD hS hA (fun H locs hP hD hS => ?_)
  refine lv_if_ne (tgt := 15) hx hb dX6_from_7 (by decide) (fun c7 => ?_) (fun c7 => ?_)
  · have hf := o_in c7 hf
    refine lv_aload_n hx hb dX6_from_15 rfl (lv_at hl 0 rfl) ?_
    refine va_get (ci := 6) (v := .ref (q 3)) (C := RX6) (T := TX6) (N := 26) hx hb hts inlX6 hown hE.1 hP 0 rfl rfl 2 (by decide) (hts _ wB86) (fun _ h9 => h9) rfl dX6_from_16 ?_
    refine lv_iload_n hx hb dX6_from_19 rfl (lv_at hl 1 rfl) ?_
    obtain ⟨hg20, hf⟩ := gd_s hf
    refine va_zald (f := (gR u 2)) hx hb hE.1 hP 3 2 rfl rfl hg20 dX6_from_20 ?_
    refine lv_if_ne (tgt := 29) hx hb dX6_from_21 (by decide) (fun c21 => ?_) (fun c21 => ?_)
    · have hf := o_in c21 hf
      refine lv_iconst (v := 0) hx hb dX6_from_29 (by decide) ?_
      refine lv_istore_n (lv' := [(2, .int 0), (0, .ref (q 0)), (1, .int a1)]) hx hb dX6_from_30 rfl hl (by decide) rfl (fun ls hl => ?_)
      have L31 : ∀ (n31v : Nat) (s31 : Int32 × KS) (e31 : KS), lpO (mX6_from_s31 a1) n31v s31 = some e31 → ∀ (H : Heap) (locs : List Loc) (ls : Array Slot), va_P D vwCl (WM q cy s31.2 ++ rest) H → va_D A (WM q cy s31.2 ++ rest) → va_S A s.heap H locs → lv_has ls 3 [(0, .ref (q 0)), (1, .int a1), (2, .int s31.1)] → (∀ (H : Heap) (locs : List Loc) (ls : Array Slot), va_P D vwCl (WM q cy e31 ++ rest) H → va_D A (WM q cy e31 ++ rest) → va_S A s.heap H locs → lv_has ls 3 [] → W p l e rmX6_from s m ([.ref (q 0), .int a1] : List Value).toArray below meth c H locs 0 0 (MQ below (kQi D A res.1 (WM q cy res.2 ++ rest)) ([.ref (q 0), .int a1] : List Value).toArray s 0 0 A) (F0 m 62 ls [])) → W p l e rmX6_from s m ([.ref (q 0), .int a1] : List Value).toArray below meth c H locs 0 0 (MQ below (kQi D A res.1 (WM q cy res.2 ++ rest)) ([.ref (q 0), .int a1] : List Value).toArray s 0 0 A) (F0 m 31 ls []) := by
        intro n31v
        induction n31v with
        | zero => intro s31 e31 h; exact (lpO_z h).elim
        | succ n31v ih31 =>
          intro s31 e31 h31z H locs ls hP hD hS hl K31_0
          obtain ⟨x31, hf, h31z⟩ := lpO_s h31z
          unfold mX6_from_s31 at hf
          refine lv_iload_n hx hb dX6_from_31 rfl (lv_at hl 2 rfl) ?_
          refine lv_sipush (v := 200) hx hb dX6_from_32 (by decide) ?_
          refine lv_icmp_ge (tgt := 62) hx hb dX6_from_35 (by decide) (fun c35 => ?_) (fun c35 => ?_)
          · have hf := o_ip c35 hf
            obtain rfl := o_ret hf
            obtain rfl := lpK_l h31z
            exact K31_0 _ _ _ hP hD hS (lv_sub hl [] rfl)
          · have hf := o_in c35 hf
            refine lv_aload_n hx hb dX6_from_38 rfl (lv_at hl 0 rfl) ?_
            refine va_get (ci := 6) (v := .ref (q 1)) (C := RX6) (T := TX6) (N := 26) hx hb hts inlX6 hown hE.1 hP 0 rfl rfl 0 (by decide) (hts _ wB83) (fun _ h9 => h9) rfl dX6_from_39 ?_
            refine lv_iload_n hx hb dX6_from_42 rfl (lv_at hl 2 rfl) ?_
            refine lv_aload_n hx hb dX6_from_43 rfl (lv_at hl 0 rfl) ?_
            refine va_get (ci := 6) (v := .ref (q 2)) (C := RX6) (T := TX6) (N := 26) hx hb hts inlX6 hown hE.1 hP 0 rfl rfl 1 (by decide) (hts _ wB84) (fun _ h9 => h9) rfl dX6_from_44 ?_
            refine lv_sipush (v := 200) hx hb dX6_from_47 (by decide) ?_
            refine lv_iload_n hx hb dX6_from_50 rfl (lv_at hl 1 rfl) ?_
            refine lv_imul hx hb dX6_from_51 ?_
            refine lv_iload_n hx hb dX6_from_52 rfl (lv_at hl 2 rfl) ?_
            refine lv_iadd hx hb dX6_from_53 ?_
            obtain ⟨hg54, hf⟩ := gd_s hf
            refine va_iald (f := (gR s31.2 1)) hx hb hE.1 hP 2 0 rfl rfl hg54 dX6_from_54 ?_
            obtain ⟨hg55, hf⟩ := gd_s hf
            refine va_iast (f := (gR s31.2 0)) hx hb hE.1 hP hD hS 1 0 rfl rfl hg55 dX6_from_55 (fun H locs hP hD hS => ?_)
            have hP : va_P D vwCl (WM q cy (sR s31.2 0 (upd (gR s31.2 0) (s31.1.toNatClampNeg) ((gR s31.2 1) (((200 * a1) + s31.1).toNatClampNeg)))) ++ rest) H := hP
            have hD : va_D A (WM q cy (sR s31.2 0 (upd (gR s31.2 0) (s31.1.toNatClampNeg) ((gR s31.2 1) (((200 * a1) + s31.1).toNatClampNeg)))) ++ rest) := hD
            refine lv_iinc (v := (s31.1 + 1)) (lv' := [(2, .int (s31.1 + 1)), (0, .ref (q 0)), (1, .int a1)]) hx hb dX6_from_56 hl (k := 2) rfl (by rfl) (by decide) rfl (fun ls hl => ?_)
            refine lv_goto (tgt := 31) hx hb dX6_from_59 (by decide) ?_
            obtain rfl := o_ret hf
            exact ih31 _ _ (lpK_r h31z) _ _ _ hP hD hS (lv_sub hl [1, 2, 0] rfl) K31_0
      obtain ⟨e31, h31q, hf⟩ := o_bs hf
      obtain ⟨n31v, h31q⟩ := lpF_ex h31q
      refine L31 n31v _ e31 h31q _ _ _ hP hD hS (lv_sub hl [1, 2, 0] rfl) ?_
      intro H locs ls hP hD hS hl
      refine lv_iconst (v := 1) hx hb dX6_from_62 (by decide) ?_
      obtain rfl := o_ret hf
      exact k_iret hx hb hr hP hD hS (Nat.zero_le _) (Nat.zero_le _) hlocks dX6_from_63
    · have hf := o_ip c21 hf
      refine lv_aload_n hx hb dX6_from_24 rfl (lv_at hl 0 rfl) ?_
      obtain ⟨r25, h25r, hf⟩ := o_bs hf
      refine k_goi (va_runV (As := []) (rest := []) ⟨hx, hb, hml, hown, hts⟩ (zX6_no l D cy sa q rest H.size u  r25 h25r) (cwV 0 hts (gB_V wB328 wB329 wB330 wB5 wB331) rfl rfl rfl (by decide +kernel) ⟨Nat.le_of_ble_eq_true rfl, Nat.le_of_ble_eq_true rfl⟩) ⟨kP.blind, k_recv hE hP (ci := 6) (q0 := 0) rfl rfl, k_pre hP hD hS hE hA⟩ rfl rfl hl.1 rfl (lv_room (Nat.le_of_ble_eq_true rfl)) dX6_from_25 ⟨Nat.zero_le _, Nat.zero_le _⟩) hD hS hA (fun H locs hP hD hS => ?_)
      obtain rfl := o_ret hf
      exact k_iret hx hb hr hP hD hS (Nat.zero_le _) (Nat.zero_le _) hlocks dX6_from_28
  · have hf := o_ip c7 hf
    refine lv_aload_n hx hb dX6_from_10 rfl (lv_at hl 0 rfl) ?_
    obtain ⟨r11, h11r, hf⟩ := o_bs hf
    refine k_goi (va_runV (As := []) (rest := []) ⟨hx, hb, hml, hown, hts⟩ (zX6_bad l D cy sa q rest H.size u  r11 h11r) (cwV 0 hts (gB_V wB144 wB145 wB146 wB5 wB147) rfl rfl rfl (by decide +kernel) ⟨Nat.le_of_ble_eq_true rfl, Nat.le_of_ble_eq_true rfl⟩) ⟨kP.blind, k_recv hE hP (ci := 6) (q0 := 0) rfl rfl, k_pre hP hD hS hE hA⟩ rfl rfl hl.1 rfl (lv_room (Nat.le_of_ble_eq_true rfl)) dX6_from_11 ⟨Nat.zero_le _, Nat.zero_le _⟩) hD hS hA (fun H locs hP hD hS => ?_)
    obtain rfl := o_ret hf
    exact k_iret hx hb hr hP hD hS (Nat.zero_le _) (Nat.zero_le _) hlocks dX6_from_14
noncomputable def mX6_full (u : KS) : Option (Int32 × KS) :=
  (mX6_refuses u 2 (-4)).bind fun r4 =>
  some (r4.1, r4.2)
abbrev rmX6_full : Room := { frames := 1, cells := 0, slots := 0, locals := 22 }
set_option maxRecDepth 100000 in
set_option maxHeartbeats 4000000 in
theorem zX6_full (l : Launch) (D : va_G) (cy : Nat → ClassId) (sa : Nat → Nat) (q : Nat → Nat) (rest : va_W) (sz : Nat) (u : KS) (res : Int32 × KS) (hf : mX6_full u = some res) : kMi l yX6_full (wsK yX6_full cX6_full 1 (some .int)) rmX6_full D cy sa (WM q cy u ++ rest) sz [.ref (q 0)] res.1 (WM q cy res.2 ++ rest) 0 0 := by
  refine kM_of (Qc := fun A => kQi D A res.1 (WM q cy res.2 ++ rest)) (cc := cX6_full) (maxL := 1) (ret := (some .int)) (by decide) (Nat.le_of_ble_eq_true rfl) ?_
  intro p e s m below meth c A hx hb hml hr hts hown hlocks hin hA hP hD hS hE hsz ls hl
  have hown : s.vm.findClass RX6 = some m.cls := hown
  obtain ⟨H, hH0⟩ : ∃ H, H = s.heap := ⟨_, rfl⟩
  obtain ⟨locs, hlocs0⟩ : ∃ locs : List Loc, locs = [] := ⟨_, rfl⟩
  have hP : va_P D vwCl (WM q cy u ++ rest) H := by rw [hH0]; exact hP
  have hS : va_S A s.heap H locs := by rw [hH0, hlocs0]; exact hS
  have hl : lv_has ls 1 [(0, .ref (q 0))] := hl
  suffices hgoal : W p l e rmX6_full s m ([.ref (q 0)] : List Value).toArray below meth c H locs 0 0 (MQ below (kQi D A res.1 (WM q cy res.2 ++ rest)) ([.ref (q 0)] : List Value).toArray s 0 0 A) (F0 m 0 ls []) by rw [hH0, hlocs0] at hgoal; exact hgoal
  clear hH0 hlocs0
  unfold mX6_full at hf
  refine lv_aload_n hx hb dX6_full_0 rfl (lv_at hl 0 rfl) ?_
  refine lv_iconst (v := 2) hx hb dX6_full_1 (by decide) ?_
  refine lv_bipush (v := (-4)) hx hb dX6_full_2 (by decide) ?_
  obtain ⟨r4, h4r, hf⟩ := o_bs hf
  refine k_goi (va_runV (As := [.int 2, .int (-4)]) (rest := []) ⟨hx, hb, hml, hown, hts⟩ (zX6_refuses l D cy sa q rest H.size u 2 (-4) r4 h4r) (cwV 2 hts (gB_V wB148 wB149 wB150 wB5 wB151) rfl rfl rfl (by decide +kernel) ⟨Nat.le_of_ble_eq_true rfl, Nat.le_of_ble_eq_true rfl⟩) ⟨kP.blind, k_recv hE hP (ci := 6) (q0 := 0) rfl rfl, k_pre hP hD hS hE hA⟩ rfl rfl hl.1 rfl (lv_room (Nat.le_of_ble_eq_true rfl)) dX6_full_4 ⟨Nat.zero_le _, Nat.zero_le _⟩) hD hS hA (fun H locs hP hD hS => ?_)
  obtain rfl := o_ret hf
  exact k_iret hx hb hr hP hD hS (Nat.zero_le _) (Nat.zero_le _) hlocks dX6_full_7
noncomputable def mX6_given (u : KS) (a1 : Int32) (a2 : Int32) (a3 : Int32) : Option (Int32) :=
  if 0 ≤ a1 then
  (gd (inb (((480 * a1) + (4 * a2)) + a3) 10080) (some ((gR u 9) ((((480 * a1) + (4 * a2)) + a3).toNatClampNeg))))
  else
  (some 0)
abbrev rmX6_given : Room := { frames := 0, cells := 0, slots := 0, locals := 0 }
set_option maxRecDepth 100000 in
set_option maxHeartbeats 4000000 in
theorem zX6_given (l : Launch) (D : va_G) (cy : Nat → ClassId) (sa : Nat → Nat) (q : Nat → Nat) (rest : va_W) (sz : Nat) (u : KS) (a1 : Int32) (a2 : Int32) (a3 : Int32) (res : Int32) (hf : mX6_given u a1 a2 a3 = some res) : kMi l yX6_given (wsK yX6_given cX6_given 4 (some .int)) rmX6_given D cy sa (WM q cy u ++ rest) sz [.ref (q 0), .int a1, .int a2, .int a3] res (WM q cy u ++ rest) 0 0 := by
  refine kM_of (Qc := fun A => kQi D A res (WM q cy u ++ rest)) (cc := cX6_given) (maxL := 4) (ret := (some .int)) (by decide) (Nat.le_of_ble_eq_true rfl) ?_
  intro p e s m below meth c A hx hb hml hr hts hown hlocks hin hA hP hD hS hE hsz ls hl
  have hown : s.vm.findClass RX6 = some m.cls := hown
  obtain ⟨H, hH0⟩ : ∃ H, H = s.heap := ⟨_, rfl⟩
  obtain ⟨locs, hlocs0⟩ : ∃ locs : List Loc, locs = [] := ⟨_, rfl⟩
  have hP : va_P D vwCl (WM q cy u ++ rest) H := by rw [hH0]; exact hP
  have hS : va_S A s.heap H locs := by rw [hH0, hlocs0]; exact hS
  have hl : lv_has ls 4 [(0, .ref (q 0)), (1, .int a1), (2, .int a2), (3, .int a3)] := hl
  suffices hgoal : W p l e rmX6_given s m ([.ref (q 0), .int a1, .int a2, .int a3] : List Value).toArray below meth c H locs 0 0 (MQ below (kQi D A res (WM q cy u ++ rest)) ([.ref (q 0), .int a1, .int a2, .int a3] : List Value).toArray s 0 0 A) (F0 m 0 ls []) by rw [hH0, hlocs0] at hgoal; exact hgoal
  clear hH0 hlocs0
  unfold mX6_given at hf
  refine lv_iload_n hx hb dX6_given_0 rfl (lv_at hl 1 rfl) ?_
  refine lv_if_ge (tgt := 8) hx hb dX6_given_1 (by decide) (fun c1 => ?_) (fun c1 => ?_)
  · have hf := o_ip c1 hf
    refine lv_aload_n hx hb dX6_given_8 rfl (lv_at hl 0 rfl) ?_
    refine va_get (ci := 6) (v := .ref (q 10)) (C := RX6) (T := TX6) (N := 26) hx hb hts inlX6 hown hE.1 hP 0 rfl rfl 15 (by decide) (hts _ wB93) (fun _ h9 => h9) rfl dX6_given_9 ?_
    refine lv_sipush (v := 480) hx hb dX6_given_12 (by decide) ?_
    refine lv_iload_n hx hb dX6_given_15 rfl (lv_at hl 1 rfl) ?_
    refine lv_imul hx hb dX6_given_16 ?_
    refine lv_iconst (v := 4) hx hb dX6_given_17 (by decide) ?_
    refine lv_iload_n hx hb dX6_given_18 rfl (lv_at hl 2 rfl) ?_
    refine lv_imul hx hb dX6_given_19 ?_
    refine lv_iadd hx hb dX6_given_20 ?_
    refine lv_iload_n hx hb dX6_given_21 rfl (lv_at hl 3 rfl) ?_
    refine lv_iadd hx hb dX6_given_22 ?_
    obtain ⟨hg23, hf⟩ := gd_s hf
    refine va_iald (f := (gR u 9)) hx hb hE.1 hP 10 0 rfl rfl hg23 dX6_given_23 ?_
    obtain rfl := o_ret hf
    exact k_iret hx hb hr hP hD hS (Nat.zero_le _) (Nat.zero_le _) hlocks dX6_given_24
  · have hf := o_in c1 hf
    refine lv_iconst (v := 0) hx hb dX6_given_4 (by decide) ?_
    refine lv_goto (tgt := 24) hx hb dX6_given_5 (by decide) ?_
    obtain rfl := o_ret hf
    exact k_iret hx hb hr hP hD hS (Nat.zero_le _) (Nat.zero_le _) hlocks dX6_given_24
noncomputable def mX6_lays_s50 (c2 : Int32) (c3 : Int32) (c4 : Int32) (c5 : Int32) (c6 : Int32) (c7 : Int32) (s50 : Int32 × KS) : Option ((KS) ⊕ (Int32 × KS)) :=
  if 4 ≤ s50.1 then
  (some (.inl s50.2))
  else
  (gd (inb (c5 + s50.1) 10080) (some (.inr ((s50.1 + 1), (sR s50.2 9 (upd (gR s50.2 9) ((c5 + s50.1).toNatClampNeg) 0))))))
noncomputable def mX6_lays (u : KS) (a1 : Int32) (a2 : Int32) : Option (KS) :=
  gd (inb a2 120) (gd (inb a2 121) ((lpF (mX6_lays_s50 a2 (a1 / 3) ((a1 - a1 / 3 * 3) + 1) ((480 * a1) + (4 * a2)) ((gR u 7) (a2.toNatClampNeg)) ((((a1 - a1 / 3 * 3) + 1) * (100 - ((gR u 8) (a2.toNatClampNeg)))) / 20)) (0, u)).bind fun e50 =>
  if (a1 / 3) = 0 then
  (gd (inb ((480 * a1) + (4 * a2)) 10080) (some (sR e50 9 (upd (gR e50 9) (((480 * a1) + (4 * a2)).toNatClampNeg) (((a1 - a1 / 3 * 3) + 1) * ((gR u 7) (a2.toNatClampNeg)))))))
  else if (a1 / 3) = 1 then
  (some e50)
  else if (a1 / 3) = 2 then
  (gd (inb (((480 * a1) + (4 * a2)) + 1) 10080) (some (sR e50 9 (upd (gR e50 9) ((((480 * a1) + (4 * a2)) + 1).toNatClampNeg) ((((a1 - a1 / 3 * 3) + 1) * (100 - ((gR u 8) (a2.toNatClampNeg)))) / 20)))))
  else if (a1 / 3) = 3 then
  (if ((gR u 7) (a2.toNatClampNeg)) = 0 then
  (gd (inb (((480 * a1) + (4 * a2)) + 2) 10080) (some (sR e50 9 (upd (gR e50 9) ((((480 * a1) + (4 * a2)) + 2).toNatClampNeg) ((((((a1 - a1 / 3 * 3) + 1) * (100 - ((gR u 8) (a2.toNatClampNeg)))) / 20) / 2) + ((a1 - a1 / 3 * 3) + 1))))))
  else
  (gd (inb (((480 * a1) + (4 * a2)) + 2) 10080) (some (sR e50 9 (upd (gR e50 9) ((((480 * a1) + (4 * a2)) + 2).toNatClampNeg) ((((((a1 - a1 / 3 * 3) + 1) * (100 - ((gR u 8) (a2.toNatClampNeg)))) / 20) / 2) + 0))))))
  else if (a1 / 3) = 4 then
  ((mX6_above0 (((a1 - a1 / 3 * 3) + 1) * (((gR u 7) (a2.toNatClampNeg)) - 4))).bind fun r188 =>
  gd (inb (((480 * a1) + (4 * a2)) + 3) 10080) (some (sR e50 9 (upd (gR e50 9) ((((480 * a1) + (4 * a2)) + 3).toNatClampNeg) r188))))
  else if (a1 / 3) = 5 then
  (if ((gR u 7) (a2.toNatClampNeg)) = 0 then
  (if ((gR u 7) (a2.toNatClampNeg)) ≤ 6 then
  (gd (inb (((480 * a1) + (4 * a2)) + 3) 10080) (some (sR e50 9 (upd (gR e50 9) ((((480 * a1) + (4 * a2)) + 3).toNatClampNeg) (0 + 0)))))
  else
  (gd (inb (((480 * a1) + (4 * a2)) + 3) 10080) (some (sR e50 9 (upd (gR e50 9) ((((480 * a1) + (4 * a2)) + 3).toNatClampNeg) (0 + ((a1 - a1 / 3 * 3) + 1)))))))
  else
  ((mX6_above0 (((a1 - a1 / 3 * 3) + 1) * (((gR u 7) (a2.toNatClampNeg)) - 2))).bind fun r219 =>
  if ((gR u 7) (a2.toNatClampNeg)) ≤ 6 then
  (gd (inb (((480 * a1) + (4 * a2)) + 3) 10080) (some (sR e50 9 (upd (gR e50 9) ((((480 * a1) + (4 * a2)) + 3).toNatClampNeg) (r219 + 0)))))
  else
  (gd (inb (((480 * a1) + (4 * a2)) + 3) 10080) (some (sR e50 9 (upd (gR e50 9) ((((480 * a1) + (4 * a2)) + 3).toNatClampNeg) (r219 + ((a1 - a1 / 3 * 3) + 1))))))))
  else if (a1 / 3) = 6 then
  (gd (inb ((480 * a1) + (4 * a2)) 10080) (gd (inb a2 121) (if 30 ≤ ((gR e50 8) (a2.toNatClampNeg)) then
  (gd (inb (((480 * a1) + (4 * a2)) + 1) 10080) (some (sR e50 9 (upd (upd (gR e50 9) (((480 * a1) + (4 * a2)).toNatClampNeg) ((((a1 - a1 / 3 * 3) + 1) * ((gR u 7) (a2.toNatClampNeg))) / 2)) ((((480 * a1) + (4 * a2)) + 1).toNatClampNeg) 0))))
  else
  (gd (inb (((480 * a1) + (4 * a2)) + 1) 10080) (some (sR e50 9 (upd (upd (gR e50 9) (((480 * a1) + (4 * a2)).toNatClampNeg) ((((a1 - a1 / 3 * 3) + 1) * ((gR u 7) (a2.toNatClampNeg))) / 2)) ((((480 * a1) + (4 * a2)) + 1).toNatClampNeg) 1)))))))
  else 
  (some e50)))
abbrev rmX6_lays : Room := { frames := 1, cells := 0, slots := 0, locals := 20 }
set_option maxRecDepth 100000 in
set_option maxHeartbeats 4000000 in
theorem zX6_lays (l : Launch) (D : va_G) (cy : Nat → ClassId) (sa : Nat → Nat) (q : Nat → Nat) (rest : va_W) (sz : Nat) (u : KS) (a1 : Int32) (a2 : Int32) (res : KS) (hf : mX6_lays u a1 a2 = some res) : kMv l yX6_lays (wsK yX6_lays cX6_lays 9 none) rmX6_lays D cy sa (WM q cy u ++ rest) sz [.ref (q 0), .int a1, .int a2] (WM q cy res ++ rest) 0 0 := by
  refine kM_of (Qc := fun A => kQv D A (WM q cy res ++ rest)) (cc := cX6_lays) (maxL := 9) (ret := none) (by decide) (Nat.le_of_ble_eq_true rfl) ?_
  intro p e s m below meth c A hx hb hml hr hts hown hlocks hin hA hP hD hS hE hsz ls hl
  have hown : s.vm.findClass RX6 = some m.cls := hown
  obtain ⟨H, hH0⟩ : ∃ H, H = s.heap := ⟨_, rfl⟩
  obtain ⟨locs, hlocs0⟩ : ∃ locs : List Loc, locs = [] := ⟨_, rfl⟩
  have hP : va_P D vwCl (WM q cy u ++ rest) H := by rw [hH0]; exact hP
  have hS : va_S A s.heap H locs := by rw [hH0, hlocs0]; exact hS
  have hl : lv_has ls 9 [(0, .ref (q 0)), (1, .int a1), (2, .int a2)] := hl
  suffices hgoal : W p l e rmX6_lays s m ([.ref (q 0), .int a1, .int a2] : List Value).toArray below meth c H locs 0 0 (MQ below (kQv D A (WM q cy res ++ rest)) ([.ref (q 0), .int a1, .int a2] : List Value).toArray s 0 0 A) (F0 m 0 ls []) by rw [hH0, hlocs0] at hgoal; exact hgoal
  clear hH0 hlocs0
  unfold mX6_lays at hf
  refine lv_iload_n hx hb dX6_lays_0 rfl (lv_at hl 1 rfl) ?_
  refine lv_iconst (v := 3) hx hb dX6_lays_1 (by decide) ?_
  refine lv_idiv hx hb dX6_lays_2 (by decide) ?_
  refine lv_istore_n (lv' := [(3, .int (a1 / 3)), (0, .ref (q 0)), (1, .int a1), (2, .int a2)]) hx hb dX6_lays_3 rfl hl (by decide) rfl (fun ls hl => ?_)
  refine lv_iload_n hx hb dX6_lays_4 rfl (lv_at hl 2 rfl) ?_
  refine lv_iconst (v := 3) hx hb dX6_lays_5 (by decide) ?_
  refine lv_irem hx hb dX6_lays_6 (by decide) ?_
  refine lv_iconst (v := 1) hx hb dX6_lays_7 (by decide) ?_
  refine lv_iadd hx hb dX6_lays_8 ?_
  refine lv_istore (lv' := [(4, .int ((a1 - a1 / 3 * 3) + 1)), (3, .int (a1 / 3)), (0, .ref (q 0)), (1, .int a1), (2, .int a2)]) hx hb dX6_lays_9 hl (by decide) rfl (fun ls hl => ?_)
  refine lv_sipush (v := 480) hx hb dX6_lays_11 (by decide) ?_
  refine lv_iload_n hx hb dX6_lays_14 rfl (lv_at hl 3 rfl) ?_
  refine lv_imul hx hb dX6_lays_15 ?_
  refine lv_iconst (v := 4) hx hb dX6_lays_16 (by decide) ?_
  refine lv_iload_n hx hb dX6_lays_17 rfl (lv_at hl 4 rfl) ?_
  refine lv_imul hx hb dX6_lays_18 ?_
  refine lv_iadd hx hb dX6_lays_19 ?_
  refine lv_istore (lv' := [(5, .int ((480 * a1) + (4 * a2))), (4, .int ((a1 - a1 / 3 * 3) + 1)), (3, .int (a1 / 3)), (0, .ref (q 0)), (1, .int a1), (2, .int a2)]) hx hb dX6_lays_20 hl (by decide) rfl (fun ls hl => ?_)
  refine lv_aload_n hx hb dX6_lays_22 rfl (lv_at hl 3 rfl) ?_
  refine va_get (ci := 6) (v := .ref (q 8)) (C := RX6) (T := TX6) (N := 26) hx hb hts inlX6 hown hE.1 hP 0 rfl rfl 12 (by decide) (hts _ wB91) (fun _ h9 => h9) rfl dX6_lays_23 ?_
  refine lv_iload_n hx hb dX6_lays_26 rfl (lv_at hl 5 rfl) ?_
  obtain ⟨hg27, hf⟩ := gd_s hf
  refine va_iald (f := (gR u 7)) hx hb hE.1 hP 8 0 rfl rfl hg27 dX6_lays_27 ?_
  refine lv_istore (lv' := [(6, .int ((gR u 7) (a2.toNatClampNeg))), (5, .int ((480 * a1) + (4 * a2))), (4, .int ((a1 - a1 / 3 * 3) + 1)), (3, .int (a1 / 3)), (0, .ref (q 0)), (1, .int a1), (2, .int a2)]) hx hb dX6_lays_28 hl (by decide) rfl (fun ls hl => ?_)
  refine lv_iload hx hb dX6_lays_30 (lv_at hl 2 rfl) ?_
  refine lv_bipush (v := 100) hx hb dX6_lays_32 (by decide) ?_
  refine lv_aload_n hx hb dX6_lays_34 rfl (lv_at hl 4 rfl) ?_
  refine va_get (ci := 6) (v := .ref (q 9)) (C := RX6) (T := TX6) (N := 26) hx hb hts inlX6 hown hE.1 hP 0 rfl rfl 13 (by decide) (hts _ wB92) (fun _ h9 => h9) rfl dX6_lays_35 ?_
  refine lv_iload_n hx hb dX6_lays_38 rfl (lv_at hl 6 rfl) ?_
  obtain ⟨hg39, hf⟩ := gd_s hf
  refine va_iald (f := (gR u 8)) hx hb hE.1 hP 9 0 rfl rfl hg39 dX6_lays_39 ?_
  refine lv_isub hx hb dX6_lays_40 ?_
  refine lv_imul hx hb dX6_lays_41 ?_
  refine lv_bipush (v := 20) hx hb dX6_lays_42 (by decide) ?_
  refine lv_idiv hx hb dX6_lays_44 (by decide) ?_
  refine lv_istore (lv' := [(7, .int ((((a1 - a1 / 3 * 3) + 1) * (100 - ((gR u 8) (a2.toNatClampNeg)))) / 20)), (6, .int ((gR u 7) (a2.toNatClampNeg))), (5, .int ((480 * a1) + (4 * a2))), (4, .int ((a1 - a1 / 3 * 3) + 1)), (3, .int (a1 / 3)), (0, .ref (q 0)), (1, .int a1), (2, .int a2)]) hx hb dX6_lays_45 hl (by decide) rfl (fun ls hl => ?_)
  refine lv_iconst (v := 0) hx hb dX6_lays_47 (by decide) ?_
  refine lv_istore (lv' := [(8, .int 0), (7, .int ((((a1 - a1 / 3 * 3) + 1) * (100 - ((gR u 8) (a2.toNatClampNeg)))) / 20)), (6, .int ((gR u 7) (a2.toNatClampNeg))), (5, .int ((480 * a1) + (4 * a2))), (4, .int ((a1 - a1 / 3 * 3) + 1)), (3, .int (a1 / 3)), (0, .ref (q 0)), (1, .int a1), (2, .int a2)]) hx hb dX6_lays_48 hl (by decide) rfl (fun ls hl => ?_)
  have L50 : ∀ (n50v : Nat) (s50 : Int32 × KS) (e50 : KS), lpO (mX6_lays_s50 a2 (a1 / 3) ((a1 - a1 / 3 * 3) + 1) ((480 * a1) + (4 * a2)) ((gR u 7) (a2.toNatClampNeg)) ((((a1 - a1 / 3 * 3) + 1) * (100 - ((gR u 8) (a2.toNatClampNeg)))) / 20)) n50v s50 = some e50 → ∀ (H : Heap) (locs : List Loc) (ls : Array Slot), va_P D vwCl (WM q cy s50.2 ++ rest) H → va_D A (WM q cy s50.2 ++ rest) → va_S A s.heap H locs → lv_has ls 9 [(0, .ref (q 0)), (2, .int a2), (3, .int (a1 / 3)), (4, .int ((a1 - a1 / 3 * 3) + 1)), (5, .int ((480 * a1) + (4 * a2))), (6, .int ((gR u 7) (a2.toNatClampNeg))), (7, .int ((((a1 - a1 / 3 * 3) + 1) * (100 - ((gR u 8) (a2.toNatClampNeg)))) / 20)), (8, .int s50.1)] → (∀ (H : Heap) (locs : List Loc) (ls : Array Slot), va_P D vwCl (WM q cy e50 ++ rest) H → va_D A (WM q cy e50 ++ rest) → va_S A s.heap H locs → lv_has ls 9 [(0, .ref (q 0)), (2, .int a2), (3, .int (a1 / 3)), (4, .int ((a1 - a1 / 3 * 3) + 1)), (5, .int ((480 * a1) + (4 * a2))), (6, .int ((gR u 7) (a2.toNatClampNeg))), (7, .int ((((a1 - a1 / 3 * 3) + 1) * (100 - ((gR u 8) (a2.toNatClampNeg)))) / 20))] → W p l e rmX6_lays s m ([.ref (q 0), .int a1, .int a2] : List Value).toArray below meth c H locs 0 0 (MQ below (kQv D A (WM q cy res ++ rest)) ([.ref (q 0), .int a1, .int a2] : List Value).toArray s 0 0 A) (F0 m 73 ls [])) → W p l e rmX6_lays s m ([.ref (q 0), .int a1, .int a2] : List Value).toArray below meth c H locs 0 0 (MQ below (kQv D A (WM q cy res ++ rest)) ([.ref (q 0), .int a1, .int a2] : List Value).toArray s 0 0 A) (F0 m 50 ls []) := by
    intro n50v
    induction n50v with
    | zero => intro s50 e50 h; exact (lpO_z h).elim
    | succ n50v ih50 =>
      intro s50 e50 h50z H locs ls hP hD hS hl K50_0
      obtain ⟨x50, hf, h50z⟩ := lpO_s h50z
      unfold mX6_lays_s50 at hf
      refine lv_iload hx hb dX6_lays_50 (lv_at hl 7 rfl) ?_
      refine lv_iconst (v := 4) hx hb dX6_lays_52 (by decide) ?_
      refine lv_icmp_ge (tgt := 73) hx hb dX6_lays_53 (by decide) (fun c53 => ?_) (fun c53 => ?_)
      · have hf := o_ip c53 hf
        obtain rfl := o_ret hf
        obtain rfl := lpK_l h50z
        exact K50_0 _ _ _ hP hD hS (lv_sub hl [0, 1, 2, 3, 4, 5, 6] rfl)
      · have hf := o_in c53 hf
        refine lv_aload_n hx hb dX6_lays_56 rfl (lv_at hl 0 rfl) ?_
        refine va_get (ci := 6) (v := .ref (q 10)) (C := RX6) (T := TX6) (N := 26) hx hb hts inlX6 hown hE.1 hP 0 rfl rfl 15 (by decide) (hts _ wB93) (fun _ h9 => h9) rfl dX6_lays_57 ?_
        refine lv_iload hx hb dX6_lays_60 (lv_at hl 4 rfl) ?_
        refine lv_iload hx hb dX6_lays_62 (lv_at hl 7 rfl) ?_
        refine lv_iadd hx hb dX6_lays_64 ?_
        refine lv_iconst (v := 0) hx hb dX6_lays_65 (by decide) ?_
        obtain ⟨hg66, hf⟩ := gd_s hf
        refine va_iast (f := (gR s50.2 9)) hx hb hE.1 hP hD hS 10 0 rfl rfl hg66 dX6_lays_66 (fun H locs hP hD hS => ?_)
        have hP : va_P D vwCl (WM q cy (sR s50.2 9 (upd (gR s50.2 9) ((((480 * a1) + (4 * a2)) + s50.1).toNatClampNeg) 0)) ++ rest) H := hP
        have hD : va_D A (WM q cy (sR s50.2 9 (upd (gR s50.2 9) ((((480 * a1) + (4 * a2)) + s50.1).toNatClampNeg) 0)) ++ rest) := hD
        refine lv_iinc (v := (s50.1 + 1)) (lv' := [(8, .int (s50.1 + 1)), (0, .ref (q 0)), (2, .int a2), (3, .int (a1 / 3)), (4, .int ((a1 - a1 / 3 * 3) + 1)), (5, .int ((480 * a1) + (4 * a2))), (6, .int ((gR u 7) (a2.toNatClampNeg))), (7, .int ((((a1 - a1 / 3 * 3) + 1) * (100 - ((gR u 8) (a2.toNatClampNeg)))) / 20))]) hx hb dX6_lays_67 hl (k := 7) rfl (by rfl) (by decide) rfl (fun ls hl => ?_)
        refine lv_goto (tgt := 50) hx hb dX6_lays_70 (by decide) ?_
        obtain rfl := o_ret hf
        exact ih50 _ _ (lpK_r h50z) _ _ _ hP hD hS (lv_sub hl [1, 2, 3, 4, 5, 6, 7, 0] rfl) K50_0
  obtain ⟨e50, h50q, hf⟩ := o_bs hf
  obtain ⟨n50v, h50q⟩ := lpF_ex h50q
  refine L50 n50v _ e50 h50q _ _ _ hP hD hS (lv_sub hl [6, 8, 5, 4, 3, 2, 1, 0] rfl) ?_
  intro H locs ls hP hD hS hl
  refine lv_iload_n hx hb dX6_lays_73 rfl (lv_at hl 2 rfl) ?_
  by_cases c74_0 : (a1 / 3) = 0
  · have hf := o_ip c74_0 hf
    refine lv_tableIn (tgt := 116) hx hb dX6_lays_74 (by rw [c74_0]; decide) (by rw [c74_0]; decide) (off := 42) (by rw [c74_0]; decide) (by decide) ?_
    refine lv_aload_n hx hb dX6_lays_116 rfl (lv_at hl 0 rfl) ?_
    refine va_get (ci := 6) (v := .ref (q 10)) (C := RX6) (T := TX6) (N := 26) hx hb hts inlX6 hown hE.1 hP 0 rfl rfl 15 (by decide) (hts _ wB93) (fun _ h9 => h9) rfl dX6_lays_117 ?_
    refine lv_iload hx hb dX6_lays_120 (lv_at hl 4 rfl) ?_
    refine lv_iload hx hb dX6_lays_122 (lv_at hl 3 rfl) ?_
    refine lv_iload hx hb dX6_lays_124 (lv_at hl 5 rfl) ?_
    refine lv_imul hx hb dX6_lays_126 ?_
    obtain ⟨hg127, hf⟩ := gd_s hf
    refine va_iast (f := (gR e50 9)) hx hb hE.1 hP hD hS 10 0 rfl rfl hg127 dX6_lays_127 (fun H locs hP hD hS => ?_)
    have hP : va_P D vwCl (WM q cy (sR e50 9 (upd (gR e50 9) (((480 * a1) + (4 * a2)).toNatClampNeg) (((a1 - a1 / 3 * 3) + 1) * ((gR u 7) (a2.toNatClampNeg))))) ++ rest) H := hP
    have hD : va_D A (WM q cy (sR e50 9 (upd (gR e50 9) (((480 * a1) + (4 * a2)).toNatClampNeg) (((a1 - a1 / 3 * 3) + 1) * ((gR u 7) (a2.toNatClampNeg))))) ++ rest) := hD
    refine lv_goto (tgt := 282) hx hb dX6_lays_128 (by decide) ?_
    obtain rfl := o_ret hf
    exact k_vret hx hb hr hP hD hS (Nat.zero_le _) (Nat.zero_le _) hlocks dX6_lays_282
  have hf := o_in c74_0 hf
  by_cases c74_1 : (a1 / 3) = 1
  · have hf := o_ip c74_1 hf
    refine lv_tableIn (tgt := 282) hx hb dX6_lays_74 (by rw [c74_1]; decide) (by rw [c74_1]; decide) (off := 208) (by rw [c74_1]; decide) (by decide) ?_
    obtain rfl := o_ret hf
    exact k_vret hx hb hr hP hD hS (Nat.zero_le _) (Nat.zero_le _) hlocks dX6_lays_282
  have hf := o_in c74_1 hf
  by_cases c74_2 : (a1 / 3) = 2
  · have hf := o_ip c74_2 hf
    refine lv_tableIn (tgt := 131) hx hb dX6_lays_74 (by rw [c74_2]; decide) (by rw [c74_2]; decide) (off := 57) (by rw [c74_2]; decide) (by decide) ?_
    refine lv_aload_n hx hb dX6_lays_131 rfl (lv_at hl 0 rfl) ?_
    refine va_get (ci := 6) (v := .ref (q 10)) (C := RX6) (T := TX6) (N := 26) hx hb hts inlX6 hown hE.1 hP 0 rfl rfl 15 (by decide) (hts _ wB93) (fun _ h9 => h9) rfl dX6_lays_132 ?_
    refine lv_iload hx hb dX6_lays_135 (lv_at hl 4 rfl) ?_
    refine lv_iconst (v := 1) hx hb dX6_lays_137 (by decide) ?_
    refine lv_iadd hx hb dX6_lays_138 ?_
    refine lv_iload hx hb dX6_lays_139 (lv_at hl 6 rfl) ?_
    obtain ⟨hg141, hf⟩ := gd_s hf
    refine va_iast (f := (gR e50 9)) hx hb hE.1 hP hD hS 10 0 rfl rfl hg141 dX6_lays_141 (fun H locs hP hD hS => ?_)
    have hP : va_P D vwCl (WM q cy (sR e50 9 (upd (gR e50 9) ((((480 * a1) + (4 * a2)) + 1).toNatClampNeg) ((((a1 - a1 / 3 * 3) + 1) * (100 - ((gR u 8) (a2.toNatClampNeg)))) / 20))) ++ rest) H := hP
    have hD : va_D A (WM q cy (sR e50 9 (upd (gR e50 9) ((((480 * a1) + (4 * a2)) + 1).toNatClampNeg) ((((a1 - a1 / 3 * 3) + 1) * (100 - ((gR u 8) (a2.toNatClampNeg)))) / 20))) ++ rest) := hD
    refine lv_goto (tgt := 282) hx hb dX6_lays_142 (by decide) ?_
    obtain rfl := o_ret hf
    exact k_vret hx hb hr hP hD hS (Nat.zero_le _) (Nat.zero_le _) hlocks dX6_lays_282
  have hf := o_in c74_2 hf
  by_cases c74_3 : (a1 / 3) = 3
  · have hf := o_ip c74_3 hf
    refine lv_tableIn (tgt := 145) hx hb dX6_lays_74 (by rw [c74_3]; decide) (by rw [c74_3]; decide) (off := 71) (by rw [c74_3]; decide) (by decide) ?_
    refine lv_aload_n hx hb dX6_lays_145 rfl (lv_at hl 0 rfl) ?_
    refine va_get (ci := 6) (v := .ref (q 10)) (C := RX6) (T := TX6) (N := 26) hx hb hts inlX6 hown hE.1 hP 0 rfl rfl 15 (by decide) (hts _ wB93) (fun _ h9 => h9) rfl dX6_lays_146 ?_
    refine lv_iload hx hb dX6_lays_149 (lv_at hl 4 rfl) ?_
    refine lv_iconst (v := 2) hx hb dX6_lays_151 (by decide) ?_
    refine lv_iadd hx hb dX6_lays_152 ?_
    refine lv_iload hx hb dX6_lays_153 (lv_at hl 6 rfl) ?_
    refine lv_iconst (v := 2) hx hb dX6_lays_155 (by decide) ?_
    refine lv_idiv hx hb dX6_lays_156 (by decide) ?_
    refine lv_iload hx hb dX6_lays_157 (lv_at hl 5 rfl) ?_
    refine lv_if_ne (tgt := 167) hx hb dX6_lays_159 (by decide) (fun c159 => ?_) (fun c159 => ?_)
    · have hf := o_in c159 hf
      refine lv_iconst (v := 0) hx hb dX6_lays_167 (by decide) ?_
      refine lv_iadd hx hb dX6_lays_168 ?_
      obtain ⟨hg169, hf⟩ := gd_s hf
      refine va_iast (f := (gR e50 9)) hx hb hE.1 hP hD hS 10 0 rfl rfl hg169 dX6_lays_169 (fun H locs hP hD hS => ?_)
      have hP : va_P D vwCl (WM q cy (sR e50 9 (upd (gR e50 9) ((((480 * a1) + (4 * a2)) + 2).toNatClampNeg) ((((((a1 - a1 / 3 * 3) + 1) * (100 - ((gR u 8) (a2.toNatClampNeg)))) / 20) / 2) + 0))) ++ rest) H := hP
      have hD : va_D A (WM q cy (sR e50 9 (upd (gR e50 9) ((((480 * a1) + (4 * a2)) + 2).toNatClampNeg) ((((((a1 - a1 / 3 * 3) + 1) * (100 - ((gR u 8) (a2.toNatClampNeg)))) / 20) / 2) + 0))) ++ rest) := hD
      refine lv_goto (tgt := 282) hx hb dX6_lays_170 (by decide) ?_
      obtain rfl := o_ret hf
      exact k_vret hx hb hr hP hD hS (Nat.zero_le _) (Nat.zero_le _) hlocks dX6_lays_282
    · have hf := o_ip c159 hf
      refine lv_iload hx hb dX6_lays_162 (lv_at hl 3 rfl) ?_
      refine lv_goto (tgt := 168) hx hb dX6_lays_164 (by decide) ?_
      refine lv_iadd hx hb dX6_lays_168 ?_
      obtain ⟨hg169, hf⟩ := gd_s hf
      refine va_iast (f := (gR e50 9)) hx hb hE.1 hP hD hS 10 0 rfl rfl hg169 dX6_lays_169 (fun H locs hP hD hS => ?_)
      have hP : va_P D vwCl (WM q cy (sR e50 9 (upd (gR e50 9) ((((480 * a1) + (4 * a2)) + 2).toNatClampNeg) ((((((a1 - a1 / 3 * 3) + 1) * (100 - ((gR u 8) (a2.toNatClampNeg)))) / 20) / 2) + ((a1 - a1 / 3 * 3) + 1)))) ++ rest) H := hP
      have hD : va_D A (WM q cy (sR e50 9 (upd (gR e50 9) ((((480 * a1) + (4 * a2)) + 2).toNatClampNeg) ((((((a1 - a1 / 3 * 3) + 1) * (100 - ((gR u 8) (a2.toNatClampNeg)))) / 20) / 2) + ((a1 - a1 / 3 * 3) + 1)))) ++ rest) := hD
      refine lv_goto (tgt := 282) hx hb dX6_lays_170 (by decide) ?_
      obtain rfl := o_ret hf
      exact k_vret hx hb hr hP hD hS (Nat.zero_le _) (Nat.zero_le _) hlocks dX6_lays_282
  have hf := o_in c74_3 hf
  by_cases c74_4 : (a1 / 3) = 4
  · have hf := o_ip c74_4 hf
    refine lv_tableIn (tgt := 173) hx hb dX6_lays_74 (by rw [c74_4]; decide) (by rw [c74_4]; decide) (off := 99) (by rw [c74_4]; decide) (by decide) ?_
    refine lv_aload_n hx hb dX6_lays_173 rfl (lv_at hl 0 rfl) ?_
    refine va_get (ci := 6) (v := .ref (q 10)) (C := RX6) (T := TX6) (N := 26) hx hb hts inlX6 hown hE.1 hP 0 rfl rfl 15 (by decide) (hts _ wB93) (fun _ h9 => h9) rfl dX6_lays_174 ?_
    refine lv_iload hx hb dX6_lays_177 (lv_at hl 4 rfl) ?_
    refine lv_iconst (v := 3) hx hb dX6_lays_179 (by decide) ?_
    refine lv_iadd hx hb dX6_lays_180 ?_
    refine lv_iload hx hb dX6_lays_181 (lv_at hl 3 rfl) ?_
    refine lv_iload hx hb dX6_lays_183 (lv_at hl 5 rfl) ?_
    refine lv_iconst (v := 4) hx hb dX6_lays_185 (by decide) ?_
    refine lv_isub hx hb dX6_lays_186 ?_
    refine lv_imul hx hb dX6_lays_187 ?_
    obtain ⟨r188, h188r, hf⟩ := o_bs hf
    refine k_goi (va_runS (As := [.int (((a1 - a1 / 3 * 3) + 1) * (((gR u 7) (a2.toNatClampNeg)) - 4))]) (rest := [.int (((480 * a1) + (4 * a2)) + 3), .ref (q 10)]) ⟨hx, hb, hml, hown, hts⟩ (zX6_above0 l D cy sa (WM q cy e50 ++ rest) H.size (((a1 - a1 / 3 * 3) + 1) * (((gR u 7) (a2.toNatClampNeg)) - 4))  r188  h188r) (va_cwS 1 hts (gB_S wB394 wB395 wB5 wB396) rfl rfl rfl (by decide +kernel) ⟨Nat.le_of_ble_eq_true rfl, Nat.le_of_ble_eq_true rfl⟩) ⟨kP.blind, k_pre hP hD hS hE hA⟩ rfl rfl hl.1 rfl (lv_room (Nat.le_of_ble_eq_true rfl)) dX6_lays_188 ⟨Nat.zero_le _, Nat.zero_le _⟩) hD hS hA (fun H locs hP hD hS => ?_)
    obtain ⟨hg191, hf⟩ := gd_s hf
    refine va_iast (f := (gR e50 9)) hx hb hE.1 hP hD hS 10 0 rfl rfl hg191 dX6_lays_191 (fun H locs hP hD hS => ?_)
    have hP : va_P D vwCl (WM q cy (sR e50 9 (upd (gR e50 9) ((((480 * a1) + (4 * a2)) + 3).toNatClampNeg) r188)) ++ rest) H := hP
    have hD : va_D A (WM q cy (sR e50 9 (upd (gR e50 9) ((((480 * a1) + (4 * a2)) + 3).toNatClampNeg) r188)) ++ rest) := hD
    refine lv_goto (tgt := 282) hx hb dX6_lays_192 (by decide) ?_
    obtain rfl := o_ret hf
    exact k_vret hx hb hr hP hD hS (Nat.zero_le _) (Nat.zero_le _) hlocks dX6_lays_282
  have hf := o_in c74_4 hf
  by_cases c74_5 : (a1 / 3) = 5
  · have hf := o_ip c74_5 hf
    refine lv_tableIn (tgt := 195) hx hb dX6_lays_74 (by rw [c74_5]; decide) (by rw [c74_5]; decide) (off := 121) (by rw [c74_5]; decide) (by decide) ?_
    refine lv_aload_n hx hb dX6_lays_195 rfl (lv_at hl 0 rfl) ?_
    refine va_get (ci := 6) (v := .ref (q 10)) (C := RX6) (T := TX6) (N := 26) hx hb hts inlX6 hown hE.1 hP 0 rfl rfl 15 (by decide) (hts _ wB93) (fun _ h9 => h9) rfl dX6_lays_196 ?_
    refine lv_iload hx hb dX6_lays_199 (lv_at hl 4 rfl) ?_
    refine lv_iconst (v := 3) hx hb dX6_lays_201 (by decide) ?_
    refine lv_iadd hx hb dX6_lays_202 ?_
    refine lv_iload hx hb dX6_lays_203 (lv_at hl 5 rfl) ?_
    refine lv_if_ne (tgt := 212) hx hb dX6_lays_205 (by decide) (fun c205 => ?_) (fun c205 => ?_)
    · have hf := o_in c205 hf
      refine lv_iload hx hb dX6_lays_212 (lv_at hl 3 rfl) ?_
      refine lv_iload hx hb dX6_lays_214 (lv_at hl 5 rfl) ?_
      refine lv_iconst (v := 2) hx hb dX6_lays_216 (by decide) ?_
      refine lv_isub hx hb dX6_lays_217 ?_
      refine lv_imul hx hb dX6_lays_218 ?_
      obtain ⟨r219, h219r, hf⟩ := o_bs hf
      refine k_goi (va_runS (As := [.int (((a1 - a1 / 3 * 3) + 1) * (((gR u 7) (a2.toNatClampNeg)) - 2))]) (rest := [.int (((480 * a1) + (4 * a2)) + 3), .ref (q 10)]) ⟨hx, hb, hml, hown, hts⟩ (zX6_above0 l D cy sa (WM q cy e50 ++ rest) H.size (((a1 - a1 / 3 * 3) + 1) * (((gR u 7) (a2.toNatClampNeg)) - 2))  r219  h219r) (va_cwS 1 hts (gB_S wB394 wB395 wB5 wB396) rfl rfl rfl (by decide +kernel) ⟨Nat.le_of_ble_eq_true rfl, Nat.le_of_ble_eq_true rfl⟩) ⟨kP.blind, k_pre hP hD hS hE hA⟩ rfl rfl hl.1 rfl (lv_room (Nat.le_of_ble_eq_true rfl)) dX6_lays_219 ⟨Nat.zero_le _, Nat.zero_le _⟩) hD hS hA (fun H locs hP hD hS => ?_)
      refine lv_iload hx hb dX6_lays_222 (lv_at hl 5 rfl) ?_
      refine lv_bipush (v := 6) hx hb dX6_lays_224 (by decide) ?_
      refine lv_icmp_le (tgt := 234) hx hb dX6_lays_226 (by decide) (fun c226 => ?_) (fun c226 => ?_)
      · have hf := o_ip c226 hf
        refine lv_iconst (v := 0) hx hb dX6_lays_234 (by decide) ?_
        refine lv_iadd hx hb dX6_lays_235 ?_
        obtain ⟨hg236, hf⟩ := gd_s hf
        refine va_iast (f := (gR e50 9)) hx hb hE.1 hP hD hS 10 0 rfl rfl hg236 dX6_lays_236 (fun H locs hP hD hS => ?_)
        have hP : va_P D vwCl (WM q cy (sR e50 9 (upd (gR e50 9) ((((480 * a1) + (4 * a2)) + 3).toNatClampNeg) (r219 + 0))) ++ rest) H := hP
        have hD : va_D A (WM q cy (sR e50 9 (upd (gR e50 9) ((((480 * a1) + (4 * a2)) + 3).toNatClampNeg) (r219 + 0))) ++ rest) := hD
        refine lv_goto (tgt := 282) hx hb dX6_lays_237 (by decide) ?_
        obtain rfl := o_ret hf
        exact k_vret hx hb hr hP hD hS (Nat.zero_le _) (Nat.zero_le _) hlocks dX6_lays_282
      · have hf := o_in c226 hf
        refine lv_iload hx hb dX6_lays_229 (lv_at hl 3 rfl) ?_
        refine lv_goto (tgt := 235) hx hb dX6_lays_231 (by decide) ?_
        refine lv_iadd hx hb dX6_lays_235 ?_
        obtain ⟨hg236, hf⟩ := gd_s hf
        refine va_iast (f := (gR e50 9)) hx hb hE.1 hP hD hS 10 0 rfl rfl hg236 dX6_lays_236 (fun H locs hP hD hS => ?_)
        have hP : va_P D vwCl (WM q cy (sR e50 9 (upd (gR e50 9) ((((480 * a1) + (4 * a2)) + 3).toNatClampNeg) (r219 + ((a1 - a1 / 3 * 3) + 1)))) ++ rest) H := hP
        have hD : va_D A (WM q cy (sR e50 9 (upd (gR e50 9) ((((480 * a1) + (4 * a2)) + 3).toNatClampNeg) (r219 + ((a1 - a1 / 3 * 3) + 1)))) ++ rest) := hD
        refine lv_goto (tgt := 282) hx hb dX6_lays_237 (by decide) ?_
        obtain rfl := o_ret hf
        exact k_vret hx hb hr hP hD hS (Nat.zero_le _) (Nat.zero_le _) hlocks dX6_lays_282
    · have hf := o_ip c205 hf
      refine lv_iconst (v := 0) hx hb dX6_lays_208 (by decide) ?_
      refine lv_goto (tgt := 222) hx hb dX6_lays_209 (by decide) ?_
      refine lv_iload hx hb dX6_lays_222 (lv_at hl 5 rfl) ?_
      refine lv_bipush (v := 6) hx hb dX6_lays_224 (by decide) ?_
      refine lv_icmp_le (tgt := 234) hx hb dX6_lays_226 (by decide) (fun c226 => ?_) (fun c226 => ?_)
      · have hf := o_ip c226 hf
        refine lv_iconst (v := 0) hx hb dX6_lays_234 (by decide) ?_
        refine lv_iadd hx hb dX6_lays_235 ?_
        obtain ⟨hg236, hf⟩ := gd_s hf
        refine va_iast (f := (gR e50 9)) hx hb hE.1 hP hD hS 10 0 rfl rfl hg236 dX6_lays_236 (fun H locs hP hD hS => ?_)
        have hP : va_P D vwCl (WM q cy (sR e50 9 (upd (gR e50 9) ((((480 * a1) + (4 * a2)) + 3).toNatClampNeg) (0 + 0))) ++ rest) H := hP
        have hD : va_D A (WM q cy (sR e50 9 (upd (gR e50 9) ((((480 * a1) + (4 * a2)) + 3).toNatClampNeg) (0 + 0))) ++ rest) := hD
        refine lv_goto (tgt := 282) hx hb dX6_lays_237 (by decide) ?_
        obtain rfl := o_ret hf
        exact k_vret hx hb hr hP hD hS (Nat.zero_le _) (Nat.zero_le _) hlocks dX6_lays_282
      · have hf := o_in c226 hf
        refine lv_iload hx hb dX6_lays_229 (lv_at hl 3 rfl) ?_
        refine lv_goto (tgt := 235) hx hb dX6_lays_231 (by decide) ?_
        refine lv_iadd hx hb dX6_lays_235 ?_
        obtain ⟨hg236, hf⟩ := gd_s hf
        refine va_iast (f := (gR e50 9)) hx hb hE.1 hP hD hS 10 0 rfl rfl hg236 dX6_lays_236 (fun H locs hP hD hS => ?_)
        have hP : va_P D vwCl (WM q cy (sR e50 9 (upd (gR e50 9) ((((480 * a1) + (4 * a2)) + 3).toNatClampNeg) (0 + ((a1 - a1 / 3 * 3) + 1)))) ++ rest) H := hP
        have hD : va_D A (WM q cy (sR e50 9 (upd (gR e50 9) ((((480 * a1) + (4 * a2)) + 3).toNatClampNeg) (0 + ((a1 - a1 / 3 * 3) + 1)))) ++ rest) := hD
        refine lv_goto (tgt := 282) hx hb dX6_lays_237 (by decide) ?_
        obtain rfl := o_ret hf
        exact k_vret hx hb hr hP hD hS (Nat.zero_le _) (Nat.zero_le _) hlocks dX6_lays_282
  have hf := o_in c74_5 hf
  by_cases c74_6 : (a1 / 3) = 6
  · have hf := o_ip c74_6 hf
    refine lv_tableIn (tgt := 240) hx hb dX6_lays_74 (by rw [c74_6]; decide) (by rw [c74_6]; decide) (off := 166) (by rw [c74_6]; decide) (by decide) ?_
    refine lv_aload_n hx hb dX6_lays_240 rfl (lv_at hl 0 rfl) ?_
    refine va_get (ci := 6) (v := .ref (q 10)) (C := RX6) (T := TX6) (N := 26) hx hb hts inlX6 hown hE.1 hP 0 rfl rfl 15 (by decide) (hts _ wB93) (fun _ h9 => h9) rfl dX6_lays_241 ?_
    refine lv_iload hx hb dX6_lays_244 (lv_at hl 4 rfl) ?_
    refine lv_iload hx hb dX6_lays_246 (lv_at hl 3 rfl) ?_
    refine lv_iload hx hb dX6_lays_248 (lv_at hl 5 rfl) ?_
    refine lv_imul hx hb dX6_lays_250 ?_
    refine lv_iconst (v := 2) hx hb dX6_lays_251 (by decide) ?_
    refine lv_idiv hx hb dX6_lays_252 (by decide) ?_
    obtain ⟨hg253, hf⟩ := gd_s hf
    refine va_iast (f := (gR e50 9)) hx hb hE.1 hP hD hS 10 0 rfl rfl hg253 dX6_lays_253 (fun H locs hP hD hS => ?_)
    have hP : va_P D vwCl (WM q cy (sR e50 9 (upd (gR e50 9) (((480 * a1) + (4 * a2)).toNatClampNeg) ((((a1 - a1 / 3 * 3) + 1) * ((gR u 7) (a2.toNatClampNeg))) / 2))) ++ rest) H := hP
    have hD : va_D A (WM q cy (sR e50 9 (upd (gR e50 9) (((480 * a1) + (4 * a2)).toNatClampNeg) ((((a1 - a1 / 3 * 3) + 1) * ((gR u 7) (a2.toNatClampNeg))) / 2))) ++ rest) := hD
    refine lv_aload_n hx hb dX6_lays_254 rfl (lv_at hl 0 rfl) ?_
    refine va_get (ci := 6) (v := .ref (q 10)) (C := RX6) (T := TX6) (N := 26) hx hb hts inlX6 hown hE.1 hP 0 rfl rfl 15 (by decide) (hts _ wB93) (fun _ h9 => h9) rfl dX6_lays_255 ?_
    refine lv_iload hx hb dX6_lays_258 (lv_at hl 4 rfl) ?_
    refine lv_iconst (v := 1) hx hb dX6_lays_260 (by decide) ?_
    refine lv_iadd hx hb dX6_lays_261 ?_
    refine lv_aload_n hx hb dX6_lays_262 rfl (lv_at hl 0 rfl) ?_
    refine va_get (ci := 6) (v := .ref (q 9)) (C := RX6) (T := TX6) (N := 26) hx hb hts inlX6 hown hE.1 hP 0 rfl rfl 13 (by decide) (hts _ wB92) (fun _ h9 => h9) rfl dX6_lays_263 ?_
    refine lv_iload_n hx hb dX6_lays_266 rfl (lv_at hl 1 rfl) ?_
    obtain ⟨hg267, hf⟩ := gd_s hf
    refine va_iald (f := (gR e50 8)) hx hb hE.1 hP 9 0 rfl rfl hg267 dX6_lays_267 ?_
    refine lv_bipush (v := 30) hx hb dX6_lays_268 (by decide) ?_
    refine lv_icmp_ge (tgt := 277) hx hb dX6_lays_270 (by decide) (fun c270 => ?_) (fun c270 => ?_)
    · have hf := o_ip c270 hf
      refine lv_iconst (v := 0) hx hb dX6_lays_277 (by decide) ?_
      obtain ⟨hg278, hf⟩ := gd_s hf
      refine va_iast (f := (upd (gR e50 9) (((480 * a1) + (4 * a2)).toNatClampNeg) ((((a1 - a1 / 3 * 3) + 1) * ((gR u 7) (a2.toNatClampNeg))) / 2))) hx hb hE.1 hP hD hS 10 0 rfl rfl hg278 dX6_lays_278 (fun H locs hP hD hS => ?_)
      have hQ : ∀ (xb : KS) (x0 : (Nat → Int32)) (xn : (Nat → Int32)), (WM q cy (sR xb 9 x0) ++ rest).set 10 (q 10, .inl (cy 0, 10080, .inl xn)) = WM q cy (sR xb 9 xn) ++ rest := fun _ _ _ => rfl
      have hP : va_P D vwCl (WM q cy (sR e50 9 (upd (upd (gR e50 9) (((480 * a1) + (4 * a2)).toNatClampNeg) ((((a1 - a1 / 3 * 3) + 1) * ((gR u 7) (a2.toNatClampNeg))) / 2)) ((((480 * a1) + (4 * a2)) + 1).toNatClampNeg) 0)) ++ rest) H := k_wP (hQ e50 (upd (gR e50 9) (((480 * a1) + (4 * a2)).toNatClampNeg) ((((a1 - a1 / 3 * 3) + 1) * ((gR u 7) (a2.toNatClampNeg))) / 2)) (upd (upd (gR e50 9) (((480 * a1) + (4 * a2)).toNatClampNeg) ((((a1 - a1 / 3 * 3) + 1) * ((gR u 7) (a2.toNatClampNeg))) / 2)) ((((480 * a1) + (4 * a2)) + 1).toNatClampNeg) 0)) hP
      have hD : va_D A (WM q cy (sR e50 9 (upd (upd (gR e50 9) (((480 * a1) + (4 * a2)).toNatClampNeg) ((((a1 - a1 / 3 * 3) + 1) * ((gR u 7) (a2.toNatClampNeg))) / 2)) ((((480 * a1) + (4 * a2)) + 1).toNatClampNeg) 0)) ++ rest) := k_wD (hQ e50 (upd (gR e50 9) (((480 * a1) + (4 * a2)).toNatClampNeg) ((((a1 - a1 / 3 * 3) + 1) * ((gR u 7) (a2.toNatClampNeg))) / 2)) (upd (upd (gR e50 9) (((480 * a1) + (4 * a2)).toNatClampNeg) ((((a1 - a1 / 3 * 3) + 1) * ((gR u 7) (a2.toNatClampNeg))) / 2)) ((((480 * a1) + (4 * a2)) + 1).toNatClampNeg) 0)) hD
      clear hQ
      refine lv_goto (tgt := 282) hx hb dX6_lays_279 (by decide) ?_
      obtain rfl := o_ret hf
      exact k_vret hx hb hr hP hD hS (Nat.zero_le _) (Nat.zero_le _) hlocks dX6_lays_282
    · have hf := o_in c270 hf
      refine lv_iconst (v := 1) hx hb dX6_lays_273 (by decide) ?_
      refine lv_goto (tgt := 278) hx hb dX6_lays_274 (by decide) ?_
      obtain ⟨hg278, hf⟩ := gd_s hf
      refine va_iast (f := (upd (gR e50 9) (((480 * a1) + (4 * a2)).toNatClampNeg) ((((a1 - a1 / 3 * 3) + 1) * ((gR u 7) (a2.toNatClampNeg))) / 2))) hx hb hE.1 hP hD hS 10 0 rfl rfl hg278 dX6_lays_278 (fun H locs hP hD hS => ?_)
      have hQ : ∀ (xb : KS) (x0 : (Nat → Int32)) (xn : (Nat → Int32)), (WM q cy (sR xb 9 x0) ++ rest).set 10 (q 10, .inl (cy 0, 10080, .inl xn)) = WM q cy (sR xb 9 xn) ++ rest := fun _ _ _ => rfl
      have hP : va_P D vwCl (WM q cy (sR e50 9 (upd (upd (gR e50 9) (((480 * a1) + (4 * a2)).toNatClampNeg) ((((a1 - a1 / 3 * 3) + 1) * ((gR u 7) (a2.toNatClampNeg))) / 2)) ((((480 * a1) + (4 * a2)) + 1).toNatClampNeg) 1)) ++ rest) H := k_wP (hQ e50 (upd (gR e50 9) (((480 * a1) + (4 * a2)).toNatClampNeg) ((((a1 - a1 / 3 * 3) + 1) * ((gR u 7) (a2.toNatClampNeg))) / 2)) (upd (upd (gR e50 9) (((480 * a1) + (4 * a2)).toNatClampNeg) ((((a1 - a1 / 3 * 3) + 1) * ((gR u 7) (a2.toNatClampNeg))) / 2)) ((((480 * a1) + (4 * a2)) + 1).toNatClampNeg) 1)) hP
      have hD : va_D A (WM q cy (sR e50 9 (upd (upd (gR e50 9) (((480 * a1) + (4 * a2)).toNatClampNeg) ((((a1 - a1 / 3 * 3) + 1) * ((gR u 7) (a2.toNatClampNeg))) / 2)) ((((480 * a1) + (4 * a2)) + 1).toNatClampNeg) 1)) ++ rest) := k_wD (hQ e50 (upd (gR e50 9) (((480 * a1) + (4 * a2)).toNatClampNeg) ((((a1 - a1 / 3 * 3) + 1) * ((gR u 7) (a2.toNatClampNeg))) / 2)) (upd (upd (gR e50 9) (((480 * a1) + (4 * a2)).toNatClampNeg) ((((a1 - a1 / 3 * 3) + 1) * ((gR u 7) (a2.toNatClampNeg))) / 2)) ((((480 * a1) + (4 * a2)) + 1).toNatClampNeg) 1)) hD
      clear hQ
      refine lv_goto (tgt := 282) hx hb dX6_lays_279 (by decide) ?_
      obtain rfl := o_ret hf
      exact k_vret hx hb hr hP hD hS (Nat.zero_le _) (Nat.zero_le _) hlocks dX6_lays_282
  have hf := o_in c74_6 hf
  refine lv_tableOut (tgt := 282) hx hb dX6_lays_74 (by have t0 := lv_neT (a := 0) c74_0 rfl; have t1 := lv_neT (a := 1) c74_1 rfl; have t2 := lv_neT (a := 2) c74_2 rfl; have t3 := lv_neT (a := 3) c74_3 rfl; have t4 := lv_neT (a := 4) c74_4 rfl; have t5 := lv_neT (a := 5) c74_5 rfl; have t6 := lv_neT (a := 6) c74_6 rfl; omega) (by decide) ?_
  obtain rfl := o_ret hf
  exact k_vret hx hb hr hP hD hS (Nat.zero_le _) (Nat.zero_le _) hlocks dX6_lays_282
noncomputable def mX6_stems_s11 (c1 : Int32) (c2 : Int32) (s11 : Int32 × Int32 × KS) : Option ((KS) ⊕ (Int32 × Int32 × KS)) :=
  if (gI s11.2.2 5) ≤ s11.2.1 then
  (some (.inl s11.2.2))
  else
  (gd (inb s11.2.1 120) (if ((gR s11.2.2 7) (s11.2.1.toNatClampNeg)) ≤ 0 then
  (gd (inb s11.2.1 120) (if ((gR s11.2.2 6) (s11.2.1.toNatClampNeg)) = 5 then
  (if 1 ≤ s11.1 then
  (gd (inb ((480 * c2) + (4 * s11.2.1)) 10080) (gd (inb s11.2.1 120) (if ((gR s11.2.2 6) (s11.2.1.toNatClampNeg)) = 4 then
  (if (s11.1 + c1) ≤ 30 then
  (some (.inr ((s11.1 + c1), (s11.2.1 + 1), (sR s11.2.2 9 (upd (gR s11.2.2 9) (((480 * c2) + (4 * s11.2.1)).toNatClampNeg) 1)))))
  else
  (some (.inr (30, (s11.2.1 + 1), (sR s11.2.2 9 (upd (gR s11.2.2 9) (((480 * c2) + (4 * s11.2.1)).toNatClampNeg) 1))))))
  else
  (gd (inb s11.2.1 120) (if ((gR s11.2.2 6) (s11.2.1.toNatClampNeg)) = 7 then
  (if (s11.1 + (3 * c1)) ≤ 30 then
  (some (.inr ((s11.1 + (3 * c1)), (s11.2.1 + 1), (sR s11.2.2 9 (upd (gR s11.2.2 9) (((480 * c2) + (4 * s11.2.1)).toNatClampNeg) 1)))))
  else
  (some (.inr (30, (s11.2.1 + 1), (sR s11.2.2 9 (upd (gR s11.2.2 9) (((480 * c2) + (4 * s11.2.1)).toNatClampNeg) 1))))))
  else
  (if (s11.1 + (-1)) ≤ 30 then
  (some (.inr ((s11.1 + (-1)), (s11.2.1 + 1), (sR s11.2.2 9 (upd (gR s11.2.2 9) (((480 * c2) + (4 * s11.2.1)).toNatClampNeg) 1)))))
  else
  (some (.inr (30, (s11.2.1 + 1), (sR s11.2.2 9 (upd (gR s11.2.2 9) (((480 * c2) + (4 * s11.2.1)).toNatClampNeg) 1)))))))))))
  else
  (gd (inb ((480 * c2) + (4 * s11.2.1)) 10080) (gd (inb s11.2.1 120) (if ((gR s11.2.2 6) (s11.2.1.toNatClampNeg)) = 4 then
  (if (s11.1 + c1) ≤ 30 then
  (some (.inr ((s11.1 + c1), (s11.2.1 + 1), (sR s11.2.2 9 (upd (gR s11.2.2 9) (((480 * c2) + (4 * s11.2.1)).toNatClampNeg) s11.1)))))
  else
  (some (.inr (30, (s11.2.1 + 1), (sR s11.2.2 9 (upd (gR s11.2.2 9) (((480 * c2) + (4 * s11.2.1)).toNatClampNeg) s11.1))))))
  else
  (gd (inb s11.2.1 120) (if ((gR s11.2.2 6) (s11.2.1.toNatClampNeg)) = 7 then
  (if (s11.1 + (3 * c1)) ≤ 30 then
  (some (.inr ((s11.1 + (3 * c1)), (s11.2.1 + 1), (sR s11.2.2 9 (upd (gR s11.2.2 9) (((480 * c2) + (4 * s11.2.1)).toNatClampNeg) s11.1)))))
  else
  (some (.inr (30, (s11.2.1 + 1), (sR s11.2.2 9 (upd (gR s11.2.2 9) (((480 * c2) + (4 * s11.2.1)).toNatClampNeg) s11.1))))))
  else
  (if (s11.1 + (-s11.1)) ≤ 30 then
  (some (.inr ((s11.1 + (-s11.1)), (s11.2.1 + 1), (sR s11.2.2 9 (upd (gR s11.2.2 9) (((480 * c2) + (4 * s11.2.1)).toNatClampNeg) s11.1)))))
  else
  (some (.inr (30, (s11.2.1 + 1), (sR s11.2.2 9 (upd (gR s11.2.2 9) (((480 * c2) + (4 * s11.2.1)).toNatClampNeg) s11.1))))))))))))
  else
  (if 0 ≤ s11.1 then
  (gd (inb ((480 * c2) + (4 * s11.2.1)) 10080) (gd (inb s11.2.1 120) (if ((gR s11.2.2 6) (s11.2.1.toNatClampNeg)) = 4 then
  (if (s11.1 + c1) ≤ 30 then
  (some (.inr ((s11.1 + c1), (s11.2.1 + 1), (sR s11.2.2 9 (upd (gR s11.2.2 9) (((480 * c2) + (4 * s11.2.1)).toNatClampNeg) 0)))))
  else
  (some (.inr (30, (s11.2.1 + 1), (sR s11.2.2 9 (upd (gR s11.2.2 9) (((480 * c2) + (4 * s11.2.1)).toNatClampNeg) 0))))))
  else
  (gd (inb s11.2.1 120) (if ((gR s11.2.2 6) (s11.2.1.toNatClampNeg)) = 7 then
  (if (s11.1 + (3 * c1)) ≤ 30 then
  (some (.inr ((s11.1 + (3 * c1)), (s11.2.1 + 1), (sR s11.2.2 9 (upd (gR s11.2.2 9) (((480 * c2) + (4 * s11.2.1)).toNatClampNeg) 0)))))
  else
  (some (.inr (30, (s11.2.1 + 1), (sR s11.2.2 9 (upd (gR s11.2.2 9) (((480 * c2) + (4 * s11.2.1)).toNatClampNeg) 0))))))
  else
  (if (s11.1 + (-0)) ≤ 30 then
  (some (.inr ((s11.1 + (-0)), (s11.2.1 + 1), (sR s11.2.2 9 (upd (gR s11.2.2 9) (((480 * c2) + (4 * s11.2.1)).toNatClampNeg) 0)))))
  else
  (some (.inr (30, (s11.2.1 + 1), (sR s11.2.2 9 (upd (gR s11.2.2 9) (((480 * c2) + (4 * s11.2.1)).toNatClampNeg) 0)))))))))))
  else
  (gd (inb ((480 * c2) + (4 * s11.2.1)) 10080) (gd (inb s11.2.1 120) (if ((gR s11.2.2 6) (s11.2.1.toNatClampNeg)) = 4 then
  (if (s11.1 + c1) ≤ 30 then
  (some (.inr ((s11.1 + c1), (s11.2.1 + 1), (sR s11.2.2 9 (upd (gR s11.2.2 9) (((480 * c2) + (4 * s11.2.1)).toNatClampNeg) s11.1)))))
  else
  (some (.inr (30, (s11.2.1 + 1), (sR s11.2.2 9 (upd (gR s11.2.2 9) (((480 * c2) + (4 * s11.2.1)).toNatClampNeg) s11.1))))))
  else
  (gd (inb s11.2.1 120) (if ((gR s11.2.2 6) (s11.2.1.toNatClampNeg)) = 7 then
  (if (s11.1 + (3 * c1)) ≤ 30 then
  (some (.inr ((s11.1 + (3 * c1)), (s11.2.1 + 1), (sR s11.2.2 9 (upd (gR s11.2.2 9) (((480 * c2) + (4 * s11.2.1)).toNatClampNeg) s11.1)))))
  else
  (some (.inr (30, (s11.2.1 + 1), (sR s11.2.2 9 (upd (gR s11.2.2 9) (((480 * c2) + (4 * s11.2.1)).toNatClampNeg) s11.1))))))
  else
  (if (s11.1 + (-s11.1)) ≤ 30 then
  (some (.inr ((s11.1 + (-s11.1)), (s11.2.1 + 1), (sR s11.2.2 9 (upd (gR s11.2.2 9) (((480 * c2) + (4 * s11.2.1)).toNatClampNeg) s11.1)))))
  else
  (some (.inr (30, (s11.2.1 + 1), (sR s11.2.2 9 (upd (gR s11.2.2 9) (((480 * c2) + (4 * s11.2.1)).toNatClampNeg) s11.1))))))))))))))
  else
  (if (4 * c1) ≤ s11.1 then
  (gd (inb ((480 * c2) + (4 * s11.2.1)) 10080) (gd (inb s11.2.1 120) (if ((gR s11.2.2 6) (s11.2.1.toNatClampNeg)) = 4 then
  (if (s11.1 + c1) ≤ 30 then
  (some (.inr ((s11.1 + c1), (s11.2.1 + 1), (sR s11.2.2 9 (upd (gR s11.2.2 9) (((480 * c2) + (4 * s11.2.1)).toNatClampNeg) (4 * c1))))))
  else
  (some (.inr (30, (s11.2.1 + 1), (sR s11.2.2 9 (upd (gR s11.2.2 9) (((480 * c2) + (4 * s11.2.1)).toNatClampNeg) (4 * c1)))))))
  else
  (gd (inb s11.2.1 120) (if ((gR s11.2.2 6) (s11.2.1.toNatClampNeg)) = 7 then
  (if (s11.1 + (3 * c1)) ≤ 30 then
  (some (.inr ((s11.1 + (3 * c1)), (s11.2.1 + 1), (sR s11.2.2 9 (upd (gR s11.2.2 9) (((480 * c2) + (4 * s11.2.1)).toNatClampNeg) (4 * c1))))))
  else
  (some (.inr (30, (s11.2.1 + 1), (sR s11.2.2 9 (upd (gR s11.2.2 9) (((480 * c2) + (4 * s11.2.1)).toNatClampNeg) (4 * c1)))))))
  else
  (if (s11.1 + (-(4 * c1))) ≤ 30 then
  (some (.inr ((s11.1 + (-(4 * c1))), (s11.2.1 + 1), (sR s11.2.2 9 (upd (gR s11.2.2 9) (((480 * c2) + (4 * s11.2.1)).toNatClampNeg) (4 * c1))))))
  else
  (some (.inr (30, (s11.2.1 + 1), (sR s11.2.2 9 (upd (gR s11.2.2 9) (((480 * c2) + (4 * s11.2.1)).toNatClampNeg) (4 * c1))))))))))))
  else
  (gd (inb ((480 * c2) + (4 * s11.2.1)) 10080) (gd (inb s11.2.1 120) (if ((gR s11.2.2 6) (s11.2.1.toNatClampNeg)) = 4 then
  (if (s11.1 + c1) ≤ 30 then
  (some (.inr ((s11.1 + c1), (s11.2.1 + 1), (sR s11.2.2 9 (upd (gR s11.2.2 9) (((480 * c2) + (4 * s11.2.1)).toNatClampNeg) s11.1)))))
  else
  (some (.inr (30, (s11.2.1 + 1), (sR s11.2.2 9 (upd (gR s11.2.2 9) (((480 * c2) + (4 * s11.2.1)).toNatClampNeg) s11.1))))))
  else
  (gd (inb s11.2.1 120) (if ((gR s11.2.2 6) (s11.2.1.toNatClampNeg)) = 7 then
  (if (s11.1 + (3 * c1)) ≤ 30 then
  (some (.inr ((s11.1 + (3 * c1)), (s11.2.1 + 1), (sR s11.2.2 9 (upd (gR s11.2.2 9) (((480 * c2) + (4 * s11.2.1)).toNatClampNeg) s11.1)))))
  else
  (some (.inr (30, (s11.2.1 + 1), (sR s11.2.2 9 (upd (gR s11.2.2 9) (((480 * c2) + (4 * s11.2.1)).toNatClampNeg) s11.1))))))
  else
  (if (s11.1 + (-s11.1)) ≤ 30 then
  (some (.inr ((s11.1 + (-s11.1)), (s11.2.1 + 1), (sR s11.2.2 9 (upd (gR s11.2.2 9) (((480 * c2) + (4 * s11.2.1)).toNatClampNeg) s11.1)))))
  else
  (some (.inr (30, (s11.2.1 + 1), (sR s11.2.2 9 (upd (gR s11.2.2 9) (((480 * c2) + (4 * s11.2.1)).toNatClampNeg) s11.1))))))))))))))
noncomputable def mX6_stems (u : KS) (a1 : Int32) : Option (KS) :=
  (lpF (mX6_stems_s11 a1 ((3 + a1) - 1)) (0, 0, u)).bind fun e11 =>
  some e11
abbrev rmX6_stems : Room := { frames := 0, cells := 0, slots := 0, locals := 0 }
set_option maxRecDepth 100000 in
set_option maxHeartbeats 4000000 in
theorem zX6_stems (l : Launch) (D : va_G) (cy : Nat → ClassId) (sa : Nat → Nat) (q : Nat → Nat) (rest : va_W) (sz : Nat) (u : KS) (a1 : Int32) (res : KS) (hf : mX6_stems u a1 = some res) : kMv l yX6_stems (wsK yX6_stems cX6_stems 7 none) rmX6_stems D cy sa (WM q cy u ++ rest) sz [.ref (q 0), .int a1] (WM q cy res ++ rest) 0 0 := by
  refine kM_of (Qc := fun A => kQv D A (WM q cy res ++ rest)) (cc := cX6_stems) (maxL := 7) (ret := none) (by decide) (Nat.le_of_ble_eq_true rfl) ?_
  intro p e s m below meth c A hx hb hml hr hts hown hlocks hin hA hP hD hS hE hsz ls hl
  have hown : s.vm.findClass RX6 = some m.cls := hown
  obtain ⟨H, hH0⟩ : ∃ H, H = s.heap := ⟨_, rfl⟩
  obtain ⟨locs, hlocs0⟩ : ∃ locs : List Loc, locs = [] := ⟨_, rfl⟩
  have hP : va_P D vwCl (WM q cy u ++ rest) H := by rw [hH0]; exact hP
  have hS : va_S A s.heap H locs := by rw [hH0, hlocs0]; exact hS
  have hl : lv_has ls 7 [(0, .ref (q 0)), (1, .int a1)] := hl
  suffices hgoal : W p l e rmX6_stems s m ([.ref (q 0), .int a1] : List Value).toArray below meth c H locs 0 0 (MQ below (kQv D A (WM q cy res ++ rest)) ([.ref (q 0), .int a1] : List Value).toArray s 0 0 A) (F0 m 0 ls []) by rw [hH0, hlocs0] at hgoal; exact hgoal
  clear hH0 hlocs0
  unfold mX6_stems at hf
  refine lv_iconst (v := 3) hx hb dX6_stems_0 (by decide) ?_
  refine lv_iload_n hx hb dX6_stems_1 rfl (lv_at hl 1 rfl) ?_
  refine lv_iadd hx hb dX6_stems_2 ?_
  refine lv_iconst (v := 1) hx hb dX6_stems_3 (by decide) ?_
  refine lv_isub hx hb dX6_stems_4 ?_
  refine lv_istore_n (lv' := [(2, .int ((3 + a1) - 1)), (0, .ref (q 0)), (1, .int a1)]) hx hb dX6_stems_5 rfl hl (by decide) rfl (fun ls hl => ?_)
  refine lv_iconst (v := 0) hx hb dX6_stems_6 (by decide) ?_
  refine lv_istore_n (lv' := [(3, .int 0), (2, .int ((3 + a1) - 1)), (0, .ref (q 0)), (1, .int a1)]) hx hb dX6_stems_7 rfl hl (by decide) rfl (fun ls hl => ?_)
  refine lv_iconst (v := 0) hx hb dX6_stems_8 (by decide) ?_
  refine lv_istore (lv' := [(4, .int 0), (3, .int 0), (2, .int ((3 + a1) - 1)), (0, .ref (q 0)), (1, .int a1)]) hx hb dX6_stems_9 hl (by decide) rfl (fun ls hl => ?_)
  have L11 : ∀ (n11v : Nat) (s11 : Int32 × Int32 × KS) (e11 : KS), lpO (mX6_stems_s11 a1 ((3 + a1) - 1)) n11v s11 = some e11 → ∀ (H : Heap) (locs : List Loc) (ls : Array Slot), va_P D vwCl (WM q cy s11.2.2 ++ rest) H → va_D A (WM q cy s11.2.2 ++ rest) → va_S A s.heap H locs → lv_has ls 7 [(0, .ref (q 0)), (1, .int a1), (2, .int ((3 + a1) - 1)), (3, .int s11.1), (4, .int s11.2.1)] → (∀ (H : Heap) (locs : List Loc) (ls : Array Slot), va_P D vwCl (WM q cy e11 ++ rest) H → va_D A (WM q cy e11 ++ rest) → va_S A s.heap H locs → lv_has ls 7 [] → W p l e rmX6_stems s m ([.ref (q 0), .int a1] : List Value).toArray below meth c H locs 0 0 (MQ below (kQv D A (WM q cy res ++ rest)) ([.ref (q 0), .int a1] : List Value).toArray s 0 0 A) (F0 m 143 ls [])) → W p l e rmX6_stems s m ([.ref (q 0), .int a1] : List Value).toArray below meth c H locs 0 0 (MQ below (kQv D A (WM q cy res ++ rest)) ([.ref (q 0), .int a1] : List Value).toArray s 0 0 A) (F0 m 11 ls []) := by
    intro n11v
    induction n11v with
    | zero => intro s11 e11 h; exact (lpO_z h).elim
    | succ n11v ih11 =>
      intro s11 e11 h11z H locs ls hP hD hS hl K11_0
      obtain ⟨x11, hf, h11z⟩ := lpO_s h11z
      unfold mX6_stems_s11 at hf
      refine lv_iload hx hb dX6_stems_11 (lv_at hl 4 rfl) ?_
      refine lv_aload_n hx hb dX6_stems_13 rfl (lv_at hl 0 rfl) ?_
      refine va_get (ci := 6) (v := .int (gI s11.2.2 5)) (C := RX6) (T := TX6) (N := 26) hx hb hts inlX6 hown hE.1 hP 0 rfl rfl 14 (by decide) (hts _ wB289) (fun _ h9 => h9) rfl dX6_stems_14 ?_
      refine lv_icmp_ge (tgt := 143) hx hb dX6_stems_17 (by decide) (fun c17 => ?_) (fun c17 => ?_)
      · have hf := o_ip c17 hf
        obtain rfl := o_ret hf
        obtain rfl := lpK_l h11z
        exact K11_0 _ _ _ hP hD hS (lv_sub hl [] rfl)
      · have hf := o_in c17 hf
        refine lv_aload_n hx hb dX6_stems_20 rfl (lv_at hl 0 rfl) ?_
        refine va_get (ci := 6) (v := .ref (q 8)) (C := RX6) (T := TX6) (N := 26) hx hb hts inlX6 hown hE.1 hP 0 rfl rfl 12 (by decide) (hts _ wB91) (fun _ h9 => h9) rfl dX6_stems_21 ?_
        refine lv_iload hx hb dX6_stems_24 (lv_at hl 4 rfl) ?_
        obtain ⟨hg26, hf⟩ := gd_s hf
        refine va_iald (f := (gR s11.2.2 7)) hx hb hE.1 hP 8 0 rfl rfl hg26 dX6_stems_26 ?_
        refine lv_if_le (tgt := 36) hx hb dX6_stems_27 (by decide) (fun c27 => ?_) (fun c27 => ?_)
        · have hf := o_ip c27 hf
          refine lv_aload_n hx hb dX6_stems_36 rfl (lv_at hl 0 rfl) ?_
          refine va_get (ci := 6) (v := .ref (q 7)) (C := RX6) (T := TX6) (N := 26) hx hb hts inlX6 hown hE.1 hP 0 rfl rfl 11 (by decide) (hts _ wB90) (fun _ h9 => h9) rfl dX6_stems_37 ?_
          refine lv_iload hx hb dX6_stems_40 (lv_at hl 4 rfl) ?_
          obtain ⟨hg42, hf⟩ := gd_s hf
          refine va_iald (f := (gR s11.2.2 6)) hx hb hE.1 hP 7 0 rfl rfl hg42 dX6_stems_42 ?_
          refine lv_iconst (v := 5) hx hb dX6_stems_43 (by decide) ?_
          refine lv_icmp_ne (tgt := 51) hx hb dX6_stems_44 (by decide) (fun c44 => ?_) (fun c44 => ?_)
          · have hf := o_in c44 hf
            refine lv_iconst (v := 0) hx hb dX6_stems_51 (by decide) ?_
            refine lv_istore (lv' := [(5, .int 0), (0, .ref (q 0)), (1, .int a1), (2, .int ((3 + a1) - 1)), (3, .int s11.1), (4, .int s11.2.1)]) hx hb dX6_stems_52 hl (by decide) rfl (fun ls hl => ?_)
            refine lv_iload_n hx hb dX6_stems_54 rfl (lv_at hl 4 rfl) ?_
            refine lv_iload hx hb dX6_stems_55 (lv_at hl 0 rfl) ?_
            refine lv_icmp_ge (tgt := 64) hx hb dX6_stems_57 (by decide) (fun c57 => ?_) (fun c57 => ?_)
            · have hf := o_ip c57 hf
              refine lv_iload hx hb dX6_stems_64 (lv_at hl 0 rfl) ?_
              refine lv_istore (lv' := [(6, .int 0), (5, .int 0), (0, .ref (q 0)), (1, .int a1), (2, .int ((3 + a1) - 1)), (3, .int s11.1), (4, .int s11.2.1)]) hx hb dX6_stems_66 hl (by decide) rfl (fun ls hl => ?_)
              refine lv_aload_n hx hb dX6_stems_68 rfl (lv_at hl 2 rfl) ?_
              refine va_get (ci := 6) (v := .ref (q 10)) (C := RX6) (T := TX6) (N := 26) hx hb hts inlX6 hown hE.1 hP 0 rfl rfl 15 (by decide) (hts _ wB93) (fun _ h9 => h9) rfl dX6_stems_69 ?_
              refine lv_sipush (v := 480) hx hb dX6_stems_72 (by decide) ?_
              refine lv_iload_n hx hb dX6_stems_75 rfl (lv_at hl 4 rfl) ?_
              refine lv_imul hx hb dX6_stems_76 ?_
              refine lv_iconst (v := 4) hx hb dX6_stems_77 (by decide) ?_
              refine lv_iload hx hb dX6_stems_78 (lv_at hl 6 rfl) ?_
              refine lv_imul hx hb dX6_stems_80 ?_
              refine lv_iadd hx hb dX6_stems_81 ?_
              refine lv_iload hx hb dX6_stems_82 (lv_at hl 0 rfl) ?_
              obtain ⟨hg84, hf⟩ := gd_s hf
              refine va_iast (f := (gR s11.2.2 9)) hx hb hE.1 hP hD hS 10 0 rfl rfl hg84 dX6_stems_84 (fun H locs hP hD hS => ?_)
              have hP : va_P D vwCl (WM q cy (sR s11.2.2 9 (upd (gR s11.2.2 9) (((480 * ((3 + a1) - 1)) + (4 * s11.2.1)).toNatClampNeg) 0)) ++ rest) H := hP
              have hD : va_D A (WM q cy (sR s11.2.2 9 (upd (gR s11.2.2 9) (((480 * ((3 + a1) - 1)) + (4 * s11.2.1)).toNatClampNeg) 0)) ++ rest) := hD
              refine lv_iload_n hx hb dX6_stems_85 rfl (lv_at hl 5 rfl) ?_
              refine lv_aload_n hx hb dX6_stems_86 rfl (lv_at hl 2 rfl) ?_
              refine va_get (ci := 6) (v := .ref (q 7)) (C := RX6) (T := TX6) (N := 26) hx hb hts inlX6 hown hE.1 hP 0 rfl rfl 11 (by decide) (hts _ wB90) (fun _ h9 => h9) rfl dX6_stems_87 ?_
              refine lv_iload hx hb dX6_stems_90 (lv_at hl 6 rfl) ?_
              obtain ⟨hg92, hf⟩ := gd_s hf
              refine va_iald (f := (gR s11.2.2 6)) hx hb hE.1 hP 7 0 rfl rfl hg92 dX6_stems_92 ?_
              refine lv_iconst (v := 4) hx hb dX6_stems_93 (by decide) ?_
              refine lv_icmp_ne (tgt := 101) hx hb dX6_stems_94 (by decide) (fun c94 => ?_) (fun c94 => ?_)
              · have hf := o_in c94 hf
                refine lv_aload_n hx hb dX6_stems_101 rfl (lv_at hl 2 rfl) ?_
                refine va_get (ci := 6) (v := .ref (q 7)) (C := RX6) (T := TX6) (N := 26) hx hb hts inlX6 hown hE.1 hP 0 rfl rfl 11 (by decide) (hts _ wB90) (fun _ h9 => h9) rfl dX6_stems_102 ?_
                refine lv_iload hx hb dX6_stems_105 (lv_at hl 6 rfl) ?_
                obtain ⟨hg107, hf⟩ := gd_s hf
                refine va_iald (f := (gR s11.2.2 6)) hx hb hE.1 hP 7 0 rfl rfl hg107 dX6_stems_107 ?_
                refine lv_bipush (v := 7) hx hb dX6_stems_108 (by decide) ?_
                refine lv_icmp_ne (tgt := 119) hx hb dX6_stems_110 (by decide) (fun c110 => ?_) (fun c110 => ?_)
                · have hf := o_in c110 hf
                  refine lv_iload hx hb dX6_stems_119 (lv_at hl 0 rfl) ?_
                  refine lv_ineg hx hb dX6_stems_121 ?_
                  refine lv_iadd hx hb dX6_stems_122 ?_
                  refine lv_istore_n (lv' := [(3, .int (s11.1 + (-0))), (6, .int 0), (5, .int 0), (0, .ref (q 0)), (1, .int a1), (2, .int ((3 + a1) - 1)), (4, .int s11.2.1)]) hx hb dX6_stems_123 rfl hl (by decide) rfl (fun ls hl => ?_)
                  refine lv_iload_n hx hb dX6_stems_124 rfl (lv_at hl 0 rfl) ?_
                  refine lv_bipush (v := 30) hx hb dX6_stems_125 (by decide) ?_
                  refine lv_icmp_le (tgt := 135) hx hb dX6_stems_127 (by decide) (fun c127 => ?_) (fun c127 => ?_)
                  · have hf := o_ip c127 hf
                    refine lv_iload_n hx hb dX6_stems_135 rfl (lv_at hl 0 rfl) ?_
                    refine lv_istore_n (lv' := [(3, .int (s11.1 + (-0))), (6, .int 0), (5, .int 0), (0, .ref (q 0)), (1, .int a1), (2, .int ((3 + a1) - 1)), (4, .int s11.2.1)]) hx hb dX6_stems_136 rfl hl (by decide) rfl (fun ls hl => ?_)
                    refine lv_iinc (v := (s11.2.1 + 1)) (lv' := [(4, .int (s11.2.1 + 1)), (3, .int (s11.1 + (-0))), (6, .int 0), (5, .int 0), (0, .ref (q 0)), (1, .int a1), (2, .int ((3 + a1) - 1))]) hx hb dX6_stems_137 hl (k := 6) rfl (by rfl) (by decide) rfl (fun ls hl => ?_)
                    refine lv_goto (tgt := 11) hx hb dX6_stems_140 (by decide) ?_
                    obtain rfl := o_ret hf
                    exact ih11 _ _ (lpK_r h11z) _ _ _ hP hD hS (lv_sub hl [4, 5, 6, 1, 0] rfl) K11_0
                  · have hf := o_in c127 hf
                    refine lv_bipush (v := 30) hx hb dX6_stems_130 (by decide) ?_
                    refine lv_goto (tgt := 136) hx hb dX6_stems_132 (by decide) ?_
                    refine lv_istore_n (lv' := [(3, .int 30), (6, .int 0), (5, .int 0), (0, .ref (q 0)), (1, .int a1), (2, .int ((3 + a1) - 1)), (4, .int s11.2.1)]) hx hb dX6_stems_136 rfl hl (by decide) rfl (fun ls hl => ?_)
                    refine lv_iinc (v := (s11.2.1 + 1)) (lv' := [(4, .int (s11.2.1 + 1)), (3, .int 30), (6, .int 0), (5, .int 0), (0, .ref (q 0)), (1, .int a1), (2, .int ((3 + a1) - 1))]) hx hb dX6_stems_137 hl (k := 6) rfl (by rfl) (by decide) rfl (fun ls hl => ?_)
                    refine lv_goto (tgt := 11) hx hb dX6_stems_140 (by decide) ?_
                    obtain rfl := o_ret hf
                    exact ih11 _ _ (lpK_r h11z) _ _ _ hP hD hS (lv_sub hl [4, 5, 6, 1, 0] rfl) K11_0
                · have hf := o_ip c110 hf
                  refine lv_iconst (v := 3) hx hb dX6_stems_113 (by decide) ?_
                  refine lv_iload_n hx hb dX6_stems_114 rfl (lv_at hl 3 rfl) ?_
                  refine lv_imul hx hb dX6_stems_115 ?_
                  refine lv_goto (tgt := 122) hx hb dX6_stems_116 (by decide) ?_
                  refine lv_iadd hx hb dX6_stems_122 ?_
                  refine lv_istore_n (lv' := [(3, .int (s11.1 + (3 * a1))), (6, .int 0), (5, .int 0), (0, .ref (q 0)), (1, .int a1), (2, .int ((3 + a1) - 1)), (4, .int s11.2.1)]) hx hb dX6_stems_123 rfl hl (by decide) rfl (fun ls hl => ?_)
                  refine lv_iload_n hx hb dX6_stems_124 rfl (lv_at hl 0 rfl) ?_
                  refine lv_bipush (v := 30) hx hb dX6_stems_125 (by decide) ?_
                  refine lv_icmp_le (tgt := 135) hx hb dX6_stems_127 (by decide) (fun c127 => ?_) (fun c127 => ?_)
                  · have hf := o_ip c127 hf
                    refine lv_iload_n hx hb dX6_stems_135 rfl (lv_at hl 0 rfl) ?_
                    refine lv_istore_n (lv' := [(3, .int (s11.1 + (3 * a1))), (6, .int 0), (5, .int 0), (0, .ref (q 0)), (1, .int a1), (2, .int ((3 + a1) - 1)), (4, .int s11.2.1)]) hx hb dX6_stems_136 rfl hl (by decide) rfl (fun ls hl => ?_)
                    refine lv_iinc (v := (s11.2.1 + 1)) (lv' := [(4, .int (s11.2.1 + 1)), (3, .int (s11.1 + (3 * a1))), (6, .int 0), (5, .int 0), (0, .ref (q 0)), (1, .int a1), (2, .int ((3 + a1) - 1))]) hx hb dX6_stems_137 hl (k := 6) rfl (by rfl) (by decide) rfl (fun ls hl => ?_)
                    refine lv_goto (tgt := 11) hx hb dX6_stems_140 (by decide) ?_
                    obtain rfl := o_ret hf
                    exact ih11 _ _ (lpK_r h11z) _ _ _ hP hD hS (lv_sub hl [4, 5, 6, 1, 0] rfl) K11_0
                  · have hf := o_in c127 hf
                    refine lv_bipush (v := 30) hx hb dX6_stems_130 (by decide) ?_
                    refine lv_goto (tgt := 136) hx hb dX6_stems_132 (by decide) ?_
                    refine lv_istore_n (lv' := [(3, .int 30), (6, .int 0), (5, .int 0), (0, .ref (q 0)), (1, .int a1), (2, .int ((3 + a1) - 1)), (4, .int s11.2.1)]) hx hb dX6_stems_136 rfl hl (by decide) rfl (fun ls hl => ?_)
                    refine lv_iinc (v := (s11.2.1 + 1)) (lv' := [(4, .int (s11.2.1 + 1)), (3, .int 30), (6, .int 0), (5, .int 0), (0, .ref (q 0)), (1, .int a1), (2, .int ((3 + a1) - 1))]) hx hb dX6_stems_137 hl (k := 6) rfl (by rfl) (by decide) rfl (fun ls hl => ?_)
                    refine lv_goto (tgt := 11) hx hb dX6_stems_140 (by decide) ?_
                    obtain rfl := o_ret hf
                    exact ih11 _ _ (lpK_r h11z) _ _ _ hP hD hS (lv_sub hl [4, 5, 6, 1, 0] rfl) K11_0
              · have hf := o_ip c94 hf
                refine lv_iload_n hx hb dX6_stems_97 rfl (lv_at hl 3 rfl) ?_
                refine lv_goto (tgt := 122) hx hb dX6_stems_98 (by decide) ?_
                refine lv_iadd hx hb dX6_stems_122 ?_
                refine lv_istore_n (lv' := [(3, .int (s11.1 + a1)), (6, .int 0), (5, .int 0), (0, .ref (q 0)), (1, .int a1), (2, .int ((3 + a1) - 1)), (4, .int s11.2.1)]) hx hb dX6_stems_123 rfl hl (by decide) rfl (fun ls hl => ?_)
                refine lv_iload_n hx hb dX6_stems_124 rfl (lv_at hl 0 rfl) ?_
                refine lv_bipush (v := 30) hx hb dX6_stems_125 (by decide) ?_
                refine lv_icmp_le (tgt := 135) hx hb dX6_stems_127 (by decide) (fun c127 => ?_) (fun c127 => ?_)
                · have hf := o_ip c127 hf
                  refine lv_iload_n hx hb dX6_stems_135 rfl (lv_at hl 0 rfl) ?_
                  refine lv_istore_n (lv' := [(3, .int (s11.1 + a1)), (6, .int 0), (5, .int 0), (0, .ref (q 0)), (1, .int a1), (2, .int ((3 + a1) - 1)), (4, .int s11.2.1)]) hx hb dX6_stems_136 rfl hl (by decide) rfl (fun ls hl => ?_)
                  refine lv_iinc (v := (s11.2.1 + 1)) (lv' := [(4, .int (s11.2.1 + 1)), (3, .int (s11.1 + a1)), (6, .int 0), (5, .int 0), (0, .ref (q 0)), (1, .int a1), (2, .int ((3 + a1) - 1))]) hx hb dX6_stems_137 hl (k := 6) rfl (by rfl) (by decide) rfl (fun ls hl => ?_)
                  refine lv_goto (tgt := 11) hx hb dX6_stems_140 (by decide) ?_
                  obtain rfl := o_ret hf
                  exact ih11 _ _ (lpK_r h11z) _ _ _ hP hD hS (lv_sub hl [4, 5, 6, 1, 0] rfl) K11_0
                · have hf := o_in c127 hf
                  refine lv_bipush (v := 30) hx hb dX6_stems_130 (by decide) ?_
                  refine lv_goto (tgt := 136) hx hb dX6_stems_132 (by decide) ?_
                  refine lv_istore_n (lv' := [(3, .int 30), (6, .int 0), (5, .int 0), (0, .ref (q 0)), (1, .int a1), (2, .int ((3 + a1) - 1)), (4, .int s11.2.1)]) hx hb dX6_stems_136 rfl hl (by decide) rfl (fun ls hl => ?_)
                  refine lv_iinc (v := (s11.2.1 + 1)) (lv' := [(4, .int (s11.2.1 + 1)), (3, .int 30), (6, .int 0), (5, .int 0), (0, .ref (q 0)), (1, .int a1), (2, .int ((3 + a1) - 1))]) hx hb dX6_stems_137 hl (k := 6) rfl (by rfl) (by decide) rfl (fun ls hl => ?_)
                  refine lv_goto (tgt := 11) hx hb dX6_stems_140 (by decide) ?_
                  obtain rfl := o_ret hf
                  exact ih11 _ _ (lpK_r h11z) _ _ _ hP hD hS (lv_sub hl [4, 5, 6, 1, 0] rfl) K11_0
            · have hf := o_in c57 hf
              refine lv_iload_n hx hb dX6_stems_60 rfl (lv_at hl 4 rfl) ?_
              refine lv_goto (tgt := 66) hx hb dX6_stems_61 (by decide) ?_
              refine lv_istore (lv' := [(6, .int s11.1), (5, .int 0), (0, .ref (q 0)), (1, .int a1), (2, .int ((3 + a1) - 1)), (3, .int s11.1), (4, .int s11.2.1)]) hx hb dX6_stems_66 hl (by decide) rfl (fun ls hl => ?_)
              refine lv_aload_n hx hb dX6_stems_68 rfl (lv_at hl 2 rfl) ?_
              refine va_get (ci := 6) (v := .ref (q 10)) (C := RX6) (T := TX6) (N := 26) hx hb hts inlX6 hown hE.1 hP 0 rfl rfl 15 (by decide) (hts _ wB93) (fun _ h9 => h9) rfl dX6_stems_69 ?_
              refine lv_sipush (v := 480) hx hb dX6_stems_72 (by decide) ?_
              refine lv_iload_n hx hb dX6_stems_75 rfl (lv_at hl 4 rfl) ?_
              refine lv_imul hx hb dX6_stems_76 ?_
              refine lv_iconst (v := 4) hx hb dX6_stems_77 (by decide) ?_
              refine lv_iload hx hb dX6_stems_78 (lv_at hl 6 rfl) ?_
              refine lv_imul hx hb dX6_stems_80 ?_
              refine lv_iadd hx hb dX6_stems_81 ?_
              refine lv_iload hx hb dX6_stems_82 (lv_at hl 0 rfl) ?_
              obtain ⟨hg84, hf⟩ := gd_s hf
              refine va_iast (f := (gR s11.2.2 9)) hx hb hE.1 hP hD hS 10 0 rfl rfl hg84 dX6_stems_84 (fun H locs hP hD hS => ?_)
              have hP : va_P D vwCl (WM q cy (sR s11.2.2 9 (upd (gR s11.2.2 9) (((480 * ((3 + a1) - 1)) + (4 * s11.2.1)).toNatClampNeg) s11.1)) ++ rest) H := hP
              have hD : va_D A (WM q cy (sR s11.2.2 9 (upd (gR s11.2.2 9) (((480 * ((3 + a1) - 1)) + (4 * s11.2.1)).toNatClampNeg) s11.1)) ++ rest) := hD
              refine lv_iload_n hx hb dX6_stems_85 rfl (lv_at hl 5 rfl) ?_
              refine lv_aload_n hx hb dX6_stems_86 rfl (lv_at hl 2 rfl) ?_
              refine va_get (ci := 6) (v := .ref (q 7)) (C := RX6) (T := TX6) (N := 26) hx hb hts inlX6 hown hE.1 hP 0 rfl rfl 11 (by decide) (hts _ wB90) (fun _ h9 => h9) rfl dX6_stems_87 ?_
              refine lv_iload hx hb dX6_stems_90 (lv_at hl 6 rfl) ?_
              obtain ⟨hg92, hf⟩ := gd_s hf
              refine va_iald (f := (gR s11.2.2 6)) hx hb hE.1 hP 7 0 rfl rfl hg92 dX6_stems_92 ?_
              refine lv_iconst (v := 4) hx hb dX6_stems_93 (by decide) ?_
              refine lv_icmp_ne (tgt := 101) hx hb dX6_stems_94 (by decide) (fun c94 => ?_) (fun c94 => ?_)
              · have hf := o_in c94 hf
                refine lv_aload_n hx hb dX6_stems_101 rfl (lv_at hl 2 rfl) ?_
                refine va_get (ci := 6) (v := .ref (q 7)) (C := RX6) (T := TX6) (N := 26) hx hb hts inlX6 hown hE.1 hP 0 rfl rfl 11 (by decide) (hts _ wB90) (fun _ h9 => h9) rfl dX6_stems_102 ?_
                refine lv_iload hx hb dX6_stems_105 (lv_at hl 6 rfl) ?_
                obtain ⟨hg107, hf⟩ := gd_s hf
                refine va_iald (f := (gR s11.2.2 6)) hx hb hE.1 hP 7 0 rfl rfl hg107 dX6_stems_107 ?_
                refine lv_bipush (v := 7) hx hb dX6_stems_108 (by decide) ?_
                refine lv_icmp_ne (tgt := 119) hx hb dX6_stems_110 (by decide) (fun c110 => ?_) (fun c110 => ?_)
                · have hf := o_in c110 hf
                  refine lv_iload hx hb dX6_stems_119 (lv_at hl 0 rfl) ?_
                  refine lv_ineg hx hb dX6_stems_121 ?_
                  refine lv_iadd hx hb dX6_stems_122 ?_
                  refine lv_istore_n (lv' := [(3, .int (s11.1 + (-s11.1))), (6, .int s11.1), (5, .int 0), (0, .ref (q 0)), (1, .int a1), (2, .int ((3 + a1) - 1)), (4, .int s11.2.1)]) hx hb dX6_stems_123 rfl hl (by decide) rfl (fun ls hl => ?_)
                  refine lv_iload_n hx hb dX6_stems_124 rfl (lv_at hl 0 rfl) ?_
                  refine lv_bipush (v := 30) hx hb dX6_stems_125 (by decide) ?_
                  refine lv_icmp_le (tgt := 135) hx hb dX6_stems_127 (by decide) (fun c127 => ?_) (fun c127 => ?_)
                  · have hf := o_ip c127 hf
                    refine lv_iload_n hx hb dX6_stems_135 rfl (lv_at hl 0 rfl) ?_
                    refine lv_istore_n (lv' := [(3, .int (s11.1 + (-s11.1))), (6, .int s11.1), (5, .int 0), (0, .ref (q 0)), (1, .int a1), (2, .int ((3 + a1) - 1)), (4, .int s11.2.1)]) hx hb dX6_stems_136 rfl hl (by decide) rfl (fun ls hl => ?_)
                    refine lv_iinc (v := (s11.2.1 + 1)) (lv' := [(4, .int (s11.2.1 + 1)), (3, .int (s11.1 + (-s11.1))), (6, .int s11.1), (5, .int 0), (0, .ref (q 0)), (1, .int a1), (2, .int ((3 + a1) - 1))]) hx hb dX6_stems_137 hl (k := 6) rfl (by rfl) (by decide) rfl (fun ls hl => ?_)
                    refine lv_goto (tgt := 11) hx hb dX6_stems_140 (by decide) ?_
                    obtain rfl := o_ret hf
                    exact ih11 _ _ (lpK_r h11z) _ _ _ hP hD hS (lv_sub hl [4, 5, 6, 1, 0] rfl) K11_0
                  · have hf := o_in c127 hf
                    refine lv_bipush (v := 30) hx hb dX6_stems_130 (by decide) ?_
                    refine lv_goto (tgt := 136) hx hb dX6_stems_132 (by decide) ?_
                    refine lv_istore_n (lv' := [(3, .int 30), (6, .int s11.1), (5, .int 0), (0, .ref (q 0)), (1, .int a1), (2, .int ((3 + a1) - 1)), (4, .int s11.2.1)]) hx hb dX6_stems_136 rfl hl (by decide) rfl (fun ls hl => ?_)
                    refine lv_iinc (v := (s11.2.1 + 1)) (lv' := [(4, .int (s11.2.1 + 1)), (3, .int 30), (6, .int s11.1), (5, .int 0), (0, .ref (q 0)), (1, .int a1), (2, .int ((3 + a1) - 1))]) hx hb dX6_stems_137 hl (k := 6) rfl (by rfl) (by decide) rfl (fun ls hl => ?_)
                    refine lv_goto (tgt := 11) hx hb dX6_stems_140 (by decide) ?_
                    obtain rfl := o_ret hf
                    exact ih11 _ _ (lpK_r h11z) _ _ _ hP hD hS (lv_sub hl [4, 5, 6, 1, 0] rfl) K11_0
                · have hf := o_ip c110 hf
                  refine lv_iconst (v := 3) hx hb dX6_stems_113 (by decide) ?_
                  refine lv_iload_n hx hb dX6_stems_114 rfl (lv_at hl 3 rfl) ?_
                  refine lv_imul hx hb dX6_stems_115 ?_
                  refine lv_goto (tgt := 122) hx hb dX6_stems_116 (by decide) ?_
                  refine lv_iadd hx hb dX6_stems_122 ?_
                  refine lv_istore_n (lv' := [(3, .int (s11.1 + (3 * a1))), (6, .int s11.1), (5, .int 0), (0, .ref (q 0)), (1, .int a1), (2, .int ((3 + a1) - 1)), (4, .int s11.2.1)]) hx hb dX6_stems_123 rfl hl (by decide) rfl (fun ls hl => ?_)
                  refine lv_iload_n hx hb dX6_stems_124 rfl (lv_at hl 0 rfl) ?_
                  refine lv_bipush (v := 30) hx hb dX6_stems_125 (by decide) ?_
                  refine lv_icmp_le (tgt := 135) hx hb dX6_stems_127 (by decide) (fun c127 => ?_) (fun c127 => ?_)
                  · have hf := o_ip c127 hf
                    refine lv_iload_n hx hb dX6_stems_135 rfl (lv_at hl 0 rfl) ?_
                    refine lv_istore_n (lv' := [(3, .int (s11.1 + (3 * a1))), (6, .int s11.1), (5, .int 0), (0, .ref (q 0)), (1, .int a1), (2, .int ((3 + a1) - 1)), (4, .int s11.2.1)]) hx hb dX6_stems_136 rfl hl (by decide) rfl (fun ls hl => ?_)
                    refine lv_iinc (v := (s11.2.1 + 1)) (lv' := [(4, .int (s11.2.1 + 1)), (3, .int (s11.1 + (3 * a1))), (6, .int s11.1), (5, .int 0), (0, .ref (q 0)), (1, .int a1), (2, .int ((3 + a1) - 1))]) hx hb dX6_stems_137 hl (k := 6) rfl (by rfl) (by decide) rfl (fun ls hl => ?_)
                    refine lv_goto (tgt := 11) hx hb dX6_stems_140 (by decide) ?_
                    obtain rfl := o_ret hf
                    exact ih11 _ _ (lpK_r h11z) _ _ _ hP hD hS (lv_sub hl [4, 5, 6, 1, 0] rfl) K11_0
                  · have hf := o_in c127 hf
                    refine lv_bipush (v := 30) hx hb dX6_stems_130 (by decide) ?_
                    refine lv_goto (tgt := 136) hx hb dX6_stems_132 (by decide) ?_
                    refine lv_istore_n (lv' := [(3, .int 30), (6, .int s11.1), (5, .int 0), (0, .ref (q 0)), (1, .int a1), (2, .int ((3 + a1) - 1)), (4, .int s11.2.1)]) hx hb dX6_stems_136 rfl hl (by decide) rfl (fun ls hl => ?_)
                    refine lv_iinc (v := (s11.2.1 + 1)) (lv' := [(4, .int (s11.2.1 + 1)), (3, .int 30), (6, .int s11.1), (5, .int 0), (0, .ref (q 0)), (1, .int a1), (2, .int ((3 + a1) - 1))]) hx hb dX6_stems_137 hl (k := 6) rfl (by rfl) (by decide) rfl (fun ls hl => ?_)
                    refine lv_goto (tgt := 11) hx hb dX6_stems_140 (by decide) ?_
                    obtain rfl := o_ret hf
                    exact ih11 _ _ (lpK_r h11z) _ _ _ hP hD hS (lv_sub hl [4, 5, 6, 1, 0] rfl) K11_0
              · have hf := o_ip c94 hf
                refine lv_iload_n hx hb dX6_stems_97 rfl (lv_at hl 3 rfl) ?_
                refine lv_goto (tgt := 122) hx hb dX6_stems_98 (by decide) ?_
                refine lv_iadd hx hb dX6_stems_122 ?_
                refine lv_istore_n (lv' := [(3, .int (s11.1 + a1)), (6, .int s11.1), (5, .int 0), (0, .ref (q 0)), (1, .int a1), (2, .int ((3 + a1) - 1)), (4, .int s11.2.1)]) hx hb dX6_stems_123 rfl hl (by decide) rfl (fun ls hl => ?_)
                refine lv_iload_n hx hb dX6_stems_124 rfl (lv_at hl 0 rfl) ?_
                refine lv_bipush (v := 30) hx hb dX6_stems_125 (by decide) ?_
                refine lv_icmp_le (tgt := 135) hx hb dX6_stems_127 (by decide) (fun c127 => ?_) (fun c127 => ?_)
                · have hf := o_ip c127 hf
                  refine lv_iload_n hx hb dX6_stems_135 rfl (lv_at hl 0 rfl) ?_
                  refine lv_istore_n (lv' := [(3, .int (s11.1 + a1)), (6, .int s11.1), (5, .int 0), (0, .ref (q 0)), (1, .int a1), (2, .int ((3 + a1) - 1)), (4, .int s11.2.1)]) hx hb dX6_stems_136 rfl hl (by decide) rfl (fun ls hl => ?_)
                  refine lv_iinc (v := (s11.2.1 + 1)) (lv' := [(4, .int (s11.2.1 + 1)), (3, .int (s11.1 + a1)), (6, .int s11.1), (5, .int 0), (0, .ref (q 0)), (1, .int a1), (2, .int ((3 + a1) - 1))]) hx hb dX6_stems_137 hl (k := 6) rfl (by rfl) (by decide) rfl (fun ls hl => ?_)
                  refine lv_goto (tgt := 11) hx hb dX6_stems_140 (by decide) ?_
                  obtain rfl := o_ret hf
                  exact ih11 _ _ (lpK_r h11z) _ _ _ hP hD hS (lv_sub hl [4, 5, 6, 1, 0] rfl) K11_0
                · have hf := o_in c127 hf
                  refine lv_bipush (v := 30) hx hb dX6_stems_130 (by decide) ?_
                  refine lv_goto (tgt := 136) hx hb dX6_stems_132 (by decide) ?_
                  refine lv_istore_n (lv' := [(3, .int 30), (6, .int s11.1), (5, .int 0), (0, .ref (q 0)), (1, .int a1), (2, .int ((3 + a1) - 1)), (4, .int s11.2.1)]) hx hb dX6_stems_136 rfl hl (by decide) rfl (fun ls hl => ?_)
                  refine lv_iinc (v := (s11.2.1 + 1)) (lv' := [(4, .int (s11.2.1 + 1)), (3, .int 30), (6, .int s11.1), (5, .int 0), (0, .ref (q 0)), (1, .int a1), (2, .int ((3 + a1) - 1))]) hx hb dX6_stems_137 hl (k := 6) rfl (by rfl) (by decide) rfl (fun ls hl => ?_)
                  refine lv_goto (tgt := 11) hx hb dX6_stems_140 (by decide) ?_
                  obtain rfl := o_ret hf
                  exact ih11 _ _ (lpK_r h11z) _ _ _ hP hD hS (lv_sub hl [4, 5, 6, 1, 0] rfl) K11_0
          · have hf := o_ip c44 hf
            refine lv_iconst (v := 1) hx hb dX6_stems_47 (by decide) ?_
            refine lv_goto (tgt := 52) hx hb dX6_stems_48 (by decide) ?_
            refine lv_istore (lv' := [(5, .int 1), (0, .ref (q 0)), (1, .int a1), (2, .int ((3 + a1) - 1)), (3, .int s11.1), (4, .int s11.2.1)]) hx hb dX6_stems_52 hl (by decide) rfl (fun ls hl => ?_)
            refine lv_iload_n hx hb dX6_stems_54 rfl (lv_at hl 4 rfl) ?_
            refine lv_iload hx hb dX6_stems_55 (lv_at hl 0 rfl) ?_
            refine lv_icmp_ge (tgt := 64) hx hb dX6_stems_57 (by decide) (fun c57 => ?_) (fun c57 => ?_)
            · have hf := o_ip c57 hf
              refine lv_iload hx hb dX6_stems_64 (lv_at hl 0 rfl) ?_
              refine lv_istore (lv' := [(6, .int 1), (5, .int 1), (0, .ref (q 0)), (1, .int a1), (2, .int ((3 + a1) - 1)), (3, .int s11.1), (4, .int s11.2.1)]) hx hb dX6_stems_66 hl (by decide) rfl (fun ls hl => ?_)
              refine lv_aload_n hx hb dX6_stems_68 rfl (lv_at hl 2 rfl) ?_
              refine va_get (ci := 6) (v := .ref (q 10)) (C := RX6) (T := TX6) (N := 26) hx hb hts inlX6 hown hE.1 hP 0 rfl rfl 15 (by decide) (hts _ wB93) (fun _ h9 => h9) rfl dX6_stems_69 ?_
              refine lv_sipush (v := 480) hx hb dX6_stems_72 (by decide) ?_
              refine lv_iload_n hx hb dX6_stems_75 rfl (lv_at hl 4 rfl) ?_
              refine lv_imul hx hb dX6_stems_76 ?_
              refine lv_iconst (v := 4) hx hb dX6_stems_77 (by decide) ?_
              refine lv_iload hx hb dX6_stems_78 (lv_at hl 6 rfl) ?_
              refine lv_imul hx hb dX6_stems_80 ?_
              refine lv_iadd hx hb dX6_stems_81 ?_
              refine lv_iload hx hb dX6_stems_82 (lv_at hl 0 rfl) ?_
              obtain ⟨hg84, hf⟩ := gd_s hf
              refine va_iast (f := (gR s11.2.2 9)) hx hb hE.1 hP hD hS 10 0 rfl rfl hg84 dX6_stems_84 (fun H locs hP hD hS => ?_)
              have hP : va_P D vwCl (WM q cy (sR s11.2.2 9 (upd (gR s11.2.2 9) (((480 * ((3 + a1) - 1)) + (4 * s11.2.1)).toNatClampNeg) 1)) ++ rest) H := hP
              have hD : va_D A (WM q cy (sR s11.2.2 9 (upd (gR s11.2.2 9) (((480 * ((3 + a1) - 1)) + (4 * s11.2.1)).toNatClampNeg) 1)) ++ rest) := hD
              refine lv_iload_n hx hb dX6_stems_85 rfl (lv_at hl 5 rfl) ?_
              refine lv_aload_n hx hb dX6_stems_86 rfl (lv_at hl 2 rfl) ?_
              refine va_get (ci := 6) (v := .ref (q 7)) (C := RX6) (T := TX6) (N := 26) hx hb hts inlX6 hown hE.1 hP 0 rfl rfl 11 (by decide) (hts _ wB90) (fun _ h9 => h9) rfl dX6_stems_87 ?_
              refine lv_iload hx hb dX6_stems_90 (lv_at hl 6 rfl) ?_
              obtain ⟨hg92, hf⟩ := gd_s hf
              refine va_iald (f := (gR s11.2.2 6)) hx hb hE.1 hP 7 0 rfl rfl hg92 dX6_stems_92 ?_
              refine lv_iconst (v := 4) hx hb dX6_stems_93 (by decide) ?_
              refine lv_icmp_ne (tgt := 101) hx hb dX6_stems_94 (by decide) (fun c94 => ?_) (fun c94 => ?_)
              · have hf := o_in c94 hf
                refine lv_aload_n hx hb dX6_stems_101 rfl (lv_at hl 2 rfl) ?_
                refine va_get (ci := 6) (v := .ref (q 7)) (C := RX6) (T := TX6) (N := 26) hx hb hts inlX6 hown hE.1 hP 0 rfl rfl 11 (by decide) (hts _ wB90) (fun _ h9 => h9) rfl dX6_stems_102 ?_
                refine lv_iload hx hb dX6_stems_105 (lv_at hl 6 rfl) ?_
                obtain ⟨hg107, hf⟩ := gd_s hf
                refine va_iald (f := (gR s11.2.2 6)) hx hb hE.1 hP 7 0 rfl rfl hg107 dX6_stems_107 ?_
                refine lv_bipush (v := 7) hx hb dX6_stems_108 (by decide) ?_
                refine lv_icmp_ne (tgt := 119) hx hb dX6_stems_110 (by decide) (fun c110 => ?_) (fun c110 => ?_)
                · have hf := o_in c110 hf
                  refine lv_iload hx hb dX6_stems_119 (lv_at hl 0 rfl) ?_
                  refine lv_ineg hx hb dX6_stems_121 ?_
                  refine lv_iadd hx hb dX6_stems_122 ?_
                  refine lv_istore_n (lv' := [(3, .int (s11.1 + (-1))), (6, .int 1), (5, .int 1), (0, .ref (q 0)), (1, .int a1), (2, .int ((3 + a1) - 1)), (4, .int s11.2.1)]) hx hb dX6_stems_123 rfl hl (by decide) rfl (fun ls hl => ?_)
                  refine lv_iload_n hx hb dX6_stems_124 rfl (lv_at hl 0 rfl) ?_
                  refine lv_bipush (v := 30) hx hb dX6_stems_125 (by decide) ?_
                  refine lv_icmp_le (tgt := 135) hx hb dX6_stems_127 (by decide) (fun c127 => ?_) (fun c127 => ?_)
                  · have hf := o_ip c127 hf
                    refine lv_iload_n hx hb dX6_stems_135 rfl (lv_at hl 0 rfl) ?_
                    refine lv_istore_n (lv' := [(3, .int (s11.1 + (-1))), (6, .int 1), (5, .int 1), (0, .ref (q 0)), (1, .int a1), (2, .int ((3 + a1) - 1)), (4, .int s11.2.1)]) hx hb dX6_stems_136 rfl hl (by decide) rfl (fun ls hl => ?_)
                    refine lv_iinc (v := (s11.2.1 + 1)) (lv' := [(4, .int (s11.2.1 + 1)), (3, .int (s11.1 + (-1))), (6, .int 1), (5, .int 1), (0, .ref (q 0)), (1, .int a1), (2, .int ((3 + a1) - 1))]) hx hb dX6_stems_137 hl (k := 6) rfl (by rfl) (by decide) rfl (fun ls hl => ?_)
                    refine lv_goto (tgt := 11) hx hb dX6_stems_140 (by decide) ?_
                    obtain rfl := o_ret hf
                    exact ih11 _ _ (lpK_r h11z) _ _ _ hP hD hS (lv_sub hl [4, 5, 6, 1, 0] rfl) K11_0
                  · have hf := o_in c127 hf
                    refine lv_bipush (v := 30) hx hb dX6_stems_130 (by decide) ?_
                    refine lv_goto (tgt := 136) hx hb dX6_stems_132 (by decide) ?_
                    refine lv_istore_n (lv' := [(3, .int 30), (6, .int 1), (5, .int 1), (0, .ref (q 0)), (1, .int a1), (2, .int ((3 + a1) - 1)), (4, .int s11.2.1)]) hx hb dX6_stems_136 rfl hl (by decide) rfl (fun ls hl => ?_)
                    refine lv_iinc (v := (s11.2.1 + 1)) (lv' := [(4, .int (s11.2.1 + 1)), (3, .int 30), (6, .int 1), (5, .int 1), (0, .ref (q 0)), (1, .int a1), (2, .int ((3 + a1) - 1))]) hx hb dX6_stems_137 hl (k := 6) rfl (by rfl) (by decide) rfl (fun ls hl => ?_)
                    refine lv_goto (tgt := 11) hx hb dX6_stems_140 (by decide) ?_
                    obtain rfl := o_ret hf
                    exact ih11 _ _ (lpK_r h11z) _ _ _ hP hD hS (lv_sub hl [4, 5, 6, 1, 0] rfl) K11_0
                · have hf := o_ip c110 hf
                  refine lv_iconst (v := 3) hx hb dX6_stems_113 (by decide) ?_
                  refine lv_iload_n hx hb dX6_stems_114 rfl (lv_at hl 3 rfl) ?_
                  refine lv_imul hx hb dX6_stems_115 ?_
                  refine lv_goto (tgt := 122) hx hb dX6_stems_116 (by decide) ?_
                  refine lv_iadd hx hb dX6_stems_122 ?_
                  refine lv_istore_n (lv' := [(3, .int (s11.1 + (3 * a1))), (6, .int 1), (5, .int 1), (0, .ref (q 0)), (1, .int a1), (2, .int ((3 + a1) - 1)), (4, .int s11.2.1)]) hx hb dX6_stems_123 rfl hl (by decide) rfl (fun ls hl => ?_)
                  refine lv_iload_n hx hb dX6_stems_124 rfl (lv_at hl 0 rfl) ?_
                  refine lv_bipush (v := 30) hx hb dX6_stems_125 (by decide) ?_
                  refine lv_icmp_le (tgt := 135) hx hb dX6_stems_127 (by decide) (fun c127 => ?_) (fun c127 => ?_)
                  · have hf := o_ip c127 hf
                    refine lv_iload_n hx hb dX6_stems_135 rfl (lv_at hl 0 rfl) ?_
                    refine lv_istore_n (lv' := [(3, .int (s11.1 + (3 * a1))), (6, .int 1), (5, .int 1), (0, .ref (q 0)), (1, .int a1), (2, .int ((3 + a1) - 1)), (4, .int s11.2.1)]) hx hb dX6_stems_136 rfl hl (by decide) rfl (fun ls hl => ?_)
                    refine lv_iinc (v := (s11.2.1 + 1)) (lv' := [(4, .int (s11.2.1 + 1)), (3, .int (s11.1 + (3 * a1))), (6, .int 1), (5, .int 1), (0, .ref (q 0)), (1, .int a1), (2, .int ((3 + a1) - 1))]) hx hb dX6_stems_137 hl (k := 6) rfl (by rfl) (by decide) rfl (fun ls hl => ?_)
                    refine lv_goto (tgt := 11) hx hb dX6_stems_140 (by decide) ?_
                    obtain rfl := o_ret hf
                    exact ih11 _ _ (lpK_r h11z) _ _ _ hP hD hS (lv_sub hl [4, 5, 6, 1, 0] rfl) K11_0
                  · have hf := o_in c127 hf
                    refine lv_bipush (v := 30) hx hb dX6_stems_130 (by decide) ?_
                    refine lv_goto (tgt := 136) hx hb dX6_stems_132 (by decide) ?_
                    refine lv_istore_n (lv' := [(3, .int 30), (6, .int 1), (5, .int 1), (0, .ref (q 0)), (1, .int a1), (2, .int ((3 + a1) - 1)), (4, .int s11.2.1)]) hx hb dX6_stems_136 rfl hl (by decide) rfl (fun ls hl => ?_)
                    refine lv_iinc (v := (s11.2.1 + 1)) (lv' := [(4, .int (s11.2.1 + 1)), (3, .int 30), (6, .int 1), (5, .int 1), (0, .ref (q 0)), (1, .int a1), (2, .int ((3 + a1) - 1))]) hx hb dX6_stems_137 hl (k := 6) rfl (by rfl) (by decide) rfl (fun ls hl => ?_)
                    refine lv_goto (tgt := 11) hx hb dX6_stems_140 (by decide) ?_
                    obtain rfl := o_ret hf
                    exact ih11 _ _ (lpK_r h11z) _ _ _ hP hD hS (lv_sub hl [4, 5, 6, 1, 0] rfl) K11_0
              · have hf := o_ip c94 hf
                refine lv_iload_n hx hb dX6_stems_97 rfl (lv_at hl 3 rfl) ?_
                refine lv_goto (tgt := 122) hx hb dX6_stems_98 (by decide) ?_
                refine lv_iadd hx hb dX6_stems_122 ?_
                refine lv_istore_n (lv' := [(3, .int (s11.1 + a1)), (6, .int 1), (5, .int 1), (0, .ref (q 0)), (1, .int a1), (2, .int ((3 + a1) - 1)), (4, .int s11.2.1)]) hx hb dX6_stems_123 rfl hl (by decide) rfl (fun ls hl => ?_)
                refine lv_iload_n hx hb dX6_stems_124 rfl (lv_at hl 0 rfl) ?_
                refine lv_bipush (v := 30) hx hb dX6_stems_125 (by decide) ?_
                refine lv_icmp_le (tgt := 135) hx hb dX6_stems_127 (by decide) (fun c127 => ?_) (fun c127 => ?_)
                · have hf := o_ip c127 hf
                  refine lv_iload_n hx hb dX6_stems_135 rfl (lv_at hl 0 rfl) ?_
                  refine lv_istore_n (lv' := [(3, .int (s11.1 + a1)), (6, .int 1), (5, .int 1), (0, .ref (q 0)), (1, .int a1), (2, .int ((3 + a1) - 1)), (4, .int s11.2.1)]) hx hb dX6_stems_136 rfl hl (by decide) rfl (fun ls hl => ?_)
                  refine lv_iinc (v := (s11.2.1 + 1)) (lv' := [(4, .int (s11.2.1 + 1)), (3, .int (s11.1 + a1)), (6, .int 1), (5, .int 1), (0, .ref (q 0)), (1, .int a1), (2, .int ((3 + a1) - 1))]) hx hb dX6_stems_137 hl (k := 6) rfl (by rfl) (by decide) rfl (fun ls hl => ?_)
                  refine lv_goto (tgt := 11) hx hb dX6_stems_140 (by decide) ?_
                  obtain rfl := o_ret hf
                  exact ih11 _ _ (lpK_r h11z) _ _ _ hP hD hS (lv_sub hl [4, 5, 6, 1, 0] rfl) K11_0
                · have hf := o_in c127 hf
                  refine lv_bipush (v := 30) hx hb dX6_stems_130 (by decide) ?_
                  refine lv_goto (tgt := 136) hx hb dX6_stems_132 (by decide) ?_
                  refine lv_istore_n (lv' := [(3, .int 30), (6, .int 1), (5, .int 1), (0, .ref (q 0)), (1, .int a1), (2, .int ((3 + a1) - 1)), (4, .int s11.2.1)]) hx hb dX6_stems_136 rfl hl (by decide) rfl (fun ls hl => ?_)
                  refine lv_iinc (v := (s11.2.1 + 1)) (lv' := [(4, .int (s11.2.1 + 1)), (3, .int 30), (6, .int 1), (5, .int 1), (0, .ref (q 0)), (1, .int a1), (2, .int ((3 + a1) - 1))]) hx hb dX6_stems_137 hl (k := 6) rfl (by rfl) (by decide) rfl (fun ls hl => ?_)
                  refine lv_goto (tgt := 11) hx hb dX6_stems_140 (by decide) ?_
                  obtain rfl := o_ret hf
                  exact ih11 _ _ (lpK_r h11z) _ _ _ hP hD hS (lv_sub hl [4, 5, 6, 1, 0] rfl) K11_0
            · have hf := o_in c57 hf
              refine lv_iload_n hx hb dX6_stems_60 rfl (lv_at hl 4 rfl) ?_
              refine lv_goto (tgt := 66) hx hb dX6_stems_61 (by decide) ?_
              refine lv_istore (lv' := [(6, .int s11.1), (5, .int 1), (0, .ref (q 0)), (1, .int a1), (2, .int ((3 + a1) - 1)), (3, .int s11.1), (4, .int s11.2.1)]) hx hb dX6_stems_66 hl (by decide) rfl (fun ls hl => ?_)
              refine lv_aload_n hx hb dX6_stems_68 rfl (lv_at hl 2 rfl) ?_
              refine va_get (ci := 6) (v := .ref (q 10)) (C := RX6) (T := TX6) (N := 26) hx hb hts inlX6 hown hE.1 hP 0 rfl rfl 15 (by decide) (hts _ wB93) (fun _ h9 => h9) rfl dX6_stems_69 ?_
              refine lv_sipush (v := 480) hx hb dX6_stems_72 (by decide) ?_
              refine lv_iload_n hx hb dX6_stems_75 rfl (lv_at hl 4 rfl) ?_
              refine lv_imul hx hb dX6_stems_76 ?_
              refine lv_iconst (v := 4) hx hb dX6_stems_77 (by decide) ?_
              refine lv_iload hx hb dX6_stems_78 (lv_at hl 6 rfl) ?_
              refine lv_imul hx hb dX6_stems_80 ?_
              refine lv_iadd hx hb dX6_stems_81 ?_
              refine lv_iload hx hb dX6_stems_82 (lv_at hl 0 rfl) ?_
              obtain ⟨hg84, hf⟩ := gd_s hf
              refine va_iast (f := (gR s11.2.2 9)) hx hb hE.1 hP hD hS 10 0 rfl rfl hg84 dX6_stems_84 (fun H locs hP hD hS => ?_)
              have hP : va_P D vwCl (WM q cy (sR s11.2.2 9 (upd (gR s11.2.2 9) (((480 * ((3 + a1) - 1)) + (4 * s11.2.1)).toNatClampNeg) s11.1)) ++ rest) H := hP
              have hD : va_D A (WM q cy (sR s11.2.2 9 (upd (gR s11.2.2 9) (((480 * ((3 + a1) - 1)) + (4 * s11.2.1)).toNatClampNeg) s11.1)) ++ rest) := hD
              refine lv_iload_n hx hb dX6_stems_85 rfl (lv_at hl 5 rfl) ?_
              refine lv_aload_n hx hb dX6_stems_86 rfl (lv_at hl 2 rfl) ?_
              refine va_get (ci := 6) (v := .ref (q 7)) (C := RX6) (T := TX6) (N := 26) hx hb hts inlX6 hown hE.1 hP 0 rfl rfl 11 (by decide) (hts _ wB90) (fun _ h9 => h9) rfl dX6_stems_87 ?_
              refine lv_iload hx hb dX6_stems_90 (lv_at hl 6 rfl) ?_
              obtain ⟨hg92, hf⟩ := gd_s hf
              refine va_iald (f := (gR s11.2.2 6)) hx hb hE.1 hP 7 0 rfl rfl hg92 dX6_stems_92 ?_
              refine lv_iconst (v := 4) hx hb dX6_stems_93 (by decide) ?_
              refine lv_icmp_ne (tgt := 101) hx hb dX6_stems_94 (by decide) (fun c94 => ?_) (fun c94 => ?_)
              · have hf := o_in c94 hf
                refine lv_aload_n hx hb dX6_stems_101 rfl (lv_at hl 2 rfl) ?_
                refine va_get (ci := 6) (v := .ref (q 7)) (C := RX6) (T := TX6) (N := 26) hx hb hts inlX6 hown hE.1 hP 0 rfl rfl 11 (by decide) (hts _ wB90) (fun _ h9 => h9) rfl dX6_stems_102 ?_
                refine lv_iload hx hb dX6_stems_105 (lv_at hl 6 rfl) ?_
                obtain ⟨hg107, hf⟩ := gd_s hf
                refine va_iald (f := (gR s11.2.2 6)) hx hb hE.1 hP 7 0 rfl rfl hg107 dX6_stems_107 ?_
                refine lv_bipush (v := 7) hx hb dX6_stems_108 (by decide) ?_
                refine lv_icmp_ne (tgt := 119) hx hb dX6_stems_110 (by decide) (fun c110 => ?_) (fun c110 => ?_)
                · have hf := o_in c110 hf
                  refine lv_iload hx hb dX6_stems_119 (lv_at hl 0 rfl) ?_
                  refine lv_ineg hx hb dX6_stems_121 ?_
                  refine lv_iadd hx hb dX6_stems_122 ?_
                  refine lv_istore_n (lv' := [(3, .int (s11.1 + (-s11.1))), (6, .int s11.1), (5, .int 1), (0, .ref (q 0)), (1, .int a1), (2, .int ((3 + a1) - 1)), (4, .int s11.2.1)]) hx hb dX6_stems_123 rfl hl (by decide) rfl (fun ls hl => ?_)
                  refine lv_iload_n hx hb dX6_stems_124 rfl (lv_at hl 0 rfl) ?_
                  refine lv_bipush (v := 30) hx hb dX6_stems_125 (by decide) ?_
                  refine lv_icmp_le (tgt := 135) hx hb dX6_stems_127 (by decide) (fun c127 => ?_) (fun c127 => ?_)
                  · have hf := o_ip c127 hf
                    refine lv_iload_n hx hb dX6_stems_135 rfl (lv_at hl 0 rfl) ?_
                    refine lv_istore_n (lv' := [(3, .int (s11.1 + (-s11.1))), (6, .int s11.1), (5, .int 1), (0, .ref (q 0)), (1, .int a1), (2, .int ((3 + a1) - 1)), (4, .int s11.2.1)]) hx hb dX6_stems_136 rfl hl (by decide) rfl (fun ls hl => ?_)
                    refine lv_iinc (v := (s11.2.1 + 1)) (lv' := [(4, .int (s11.2.1 + 1)), (3, .int (s11.1 + (-s11.1))), (6, .int s11.1), (5, .int 1), (0, .ref (q 0)), (1, .int a1), (2, .int ((3 + a1) - 1))]) hx hb dX6_stems_137 hl (k := 6) rfl (by rfl) (by decide) rfl (fun ls hl => ?_)
                    refine lv_goto (tgt := 11) hx hb dX6_stems_140 (by decide) ?_
                    obtain rfl := o_ret hf
                    exact ih11 _ _ (lpK_r h11z) _ _ _ hP hD hS (lv_sub hl [4, 5, 6, 1, 0] rfl) K11_0
                  · have hf := o_in c127 hf
                    refine lv_bipush (v := 30) hx hb dX6_stems_130 (by decide) ?_
                    refine lv_goto (tgt := 136) hx hb dX6_stems_132 (by decide) ?_
                    refine lv_istore_n (lv' := [(3, .int 30), (6, .int s11.1), (5, .int 1), (0, .ref (q 0)), (1, .int a1), (2, .int ((3 + a1) - 1)), (4, .int s11.2.1)]) hx hb dX6_stems_136 rfl hl (by decide) rfl (fun ls hl => ?_)
                    refine lv_iinc (v := (s11.2.1 + 1)) (lv' := [(4, .int (s11.2.1 + 1)), (3, .int 30), (6, .int s11.1), (5, .int 1), (0, .ref (q 0)), (1, .int a1), (2, .int ((3 + a1) - 1))]) hx hb dX6_stems_137 hl (k := 6) rfl (by rfl) (by decide) rfl (fun ls hl => ?_)
                    refine lv_goto (tgt := 11) hx hb dX6_stems_140 (by decide) ?_
                    obtain rfl := o_ret hf
                    exact ih11 _ _ (lpK_r h11z) _ _ _ hP hD hS (lv_sub hl [4, 5, 6, 1, 0] rfl) K11_0
                · have hf := o_ip c110 hf
                  refine lv_iconst (v := 3) hx hb dX6_stems_113 (by decide) ?_
                  refine lv_iload_n hx hb dX6_stems_114 rfl (lv_at hl 3 rfl) ?_
                  refine lv_imul hx hb dX6_stems_115 ?_
                  refine lv_goto (tgt := 122) hx hb dX6_stems_116 (by decide) ?_
                  refine lv_iadd hx hb dX6_stems_122 ?_
                  refine lv_istore_n (lv' := [(3, .int (s11.1 + (3 * a1))), (6, .int s11.1), (5, .int 1), (0, .ref (q 0)), (1, .int a1), (2, .int ((3 + a1) - 1)), (4, .int s11.2.1)]) hx hb dX6_stems_123 rfl hl (by decide) rfl (fun ls hl => ?_)
                  refine lv_iload_n hx hb dX6_stems_124 rfl (lv_at hl 0 rfl) ?_
                  refine lv_bipush (v := 30) hx hb dX6_stems_125 (by decide) ?_
                  refine lv_icmp_le (tgt := 135) hx hb dX6_stems_127 (by decide) (fun c127 => ?_) (fun c127 => ?_)
                  · have hf := o_ip c127 hf
                    refine lv_iload_n hx hb dX6_stems_135 rfl (lv_at hl 0 rfl) ?_
                    refine lv_istore_n (lv' := [(3, .int (s11.1 + (3 * a1))), (6, .int s11.1), (5, .int 1), (0, .ref (q 0)), (1, .int a1), (2, .int ((3 + a1) - 1)), (4, .int s11.2.1)]) hx hb dX6_stems_136 rfl hl (by decide) rfl (fun ls hl => ?_)
                    refine lv_iinc (v := (s11.2.1 + 1)) (lv' := [(4, .int (s11.2.1 + 1)), (3, .int (s11.1 + (3 * a1))), (6, .int s11.1), (5, .int 1), (0, .ref (q 0)), (1, .int a1), (2, .int ((3 + a1) - 1))]) hx hb dX6_stems_137 hl (k := 6) rfl (by rfl) (by decide) rfl (fun ls hl => ?_)
                    refine lv_goto (tgt := 11) hx hb dX6_stems_140 (by decide) ?_
                    obtain rfl := o_ret hf
                    exact ih11 _ _ (lpK_r h11z) _ _ _ hP hD hS (lv_sub hl [4, 5, 6, 1, 0] rfl) K11_0
                  · have hf := o_in c127 hf
                    refine lv_bipush (v := 30) hx hb dX6_stems_130 (by decide) ?_
                    refine lv_goto (tgt := 136) hx hb dX6_stems_132 (by decide) ?_
                    refine lv_istore_n (lv' := [(3, .int 30), (6, .int s11.1), (5, .int 1), (0, .ref (q 0)), (1, .int a1), (2, .int ((3 + a1) - 1)), (4, .int s11.2.1)]) hx hb dX6_stems_136 rfl hl (by decide) rfl (fun ls hl => ?_)
                    refine lv_iinc (v := (s11.2.1 + 1)) (lv' := [(4, .int (s11.2.1 + 1)), (3, .int 30), (6, .int s11.1), (5, .int 1), (0, .ref (q 0)), (1, .int a1), (2, .int ((3 + a1) - 1))]) hx hb dX6_stems_137 hl (k := 6) rfl (by rfl) (by decide) rfl (fun ls hl => ?_)
                    refine lv_goto (tgt := 11) hx hb dX6_stems_140 (by decide) ?_
                    obtain rfl := o_ret hf
                    exact ih11 _ _ (lpK_r h11z) _ _ _ hP hD hS (lv_sub hl [4, 5, 6, 1, 0] rfl) K11_0
              · have hf := o_ip c94 hf
                refine lv_iload_n hx hb dX6_stems_97 rfl (lv_at hl 3 rfl) ?_
                refine lv_goto (tgt := 122) hx hb dX6_stems_98 (by decide) ?_
                refine lv_iadd hx hb dX6_stems_122 ?_
                refine lv_istore_n (lv' := [(3, .int (s11.1 + a1)), (6, .int s11.1), (5, .int 1), (0, .ref (q 0)), (1, .int a1), (2, .int ((3 + a1) - 1)), (4, .int s11.2.1)]) hx hb dX6_stems_123 rfl hl (by decide) rfl (fun ls hl => ?_)
                refine lv_iload_n hx hb dX6_stems_124 rfl (lv_at hl 0 rfl) ?_
                refine lv_bipush (v := 30) hx hb dX6_stems_125 (by decide) ?_
                refine lv_icmp_le (tgt := 135) hx hb dX6_stems_127 (by decide) (fun c127 => ?_) (fun c127 => ?_)
                · have hf := o_ip c127 hf
                  refine lv_iload_n hx hb dX6_stems_135 rfl (lv_at hl 0 rfl) ?_
                  refine lv_istore_n (lv' := [(3, .int (s11.1 + a1)), (6, .int s11.1), (5, .int 1), (0, .ref (q 0)), (1, .int a1), (2, .int ((3 + a1) - 1)), (4, .int s11.2.1)]) hx hb dX6_stems_136 rfl hl (by decide) rfl (fun ls hl => ?_)
                  refine lv_iinc (v := (s11.2.1 + 1)) (lv' := [(4, .int (s11.2.1 + 1)), (3, .int (s11.1 + a1)), (6, .int s11.1), (5, .int 1), (0, .ref (q 0)), (1, .int a1), (2, .int ((3 + a1) - 1))]) hx hb dX6_stems_137 hl (k := 6) rfl (by rfl) (by decide) rfl (fun ls hl => ?_)
                  refine lv_goto (tgt := 11) hx hb dX6_stems_140 (by decide) ?_
                  obtain rfl := o_ret hf
                  exact ih11 _ _ (lpK_r h11z) _ _ _ hP hD hS (lv_sub hl [4, 5, 6, 1, 0] rfl) K11_0
                · have hf := o_in c127 hf
                  refine lv_bipush (v := 30) hx hb dX6_stems_130 (by decide) ?_
                  refine lv_goto (tgt := 136) hx hb dX6_stems_132 (by decide) ?_
                  refine lv_istore_n (lv' := [(3, .int 30), (6, .int s11.1), (5, .int 1), (0, .ref (q 0)), (1, .int a1), (2, .int ((3 + a1) - 1)), (4, .int s11.2.1)]) hx hb dX6_stems_136 rfl hl (by decide) rfl (fun ls hl => ?_)
                  refine lv_iinc (v := (s11.2.1 + 1)) (lv' := [(4, .int (s11.2.1 + 1)), (3, .int 30), (6, .int s11.1), (5, .int 1), (0, .ref (q 0)), (1, .int a1), (2, .int ((3 + a1) - 1))]) hx hb dX6_stems_137 hl (k := 6) rfl (by rfl) (by decide) rfl (fun ls hl => ?_)
                  refine lv_goto (tgt := 11) hx hb dX6_stems_140 (by decide) ?_
                  obtain rfl := o_ret hf
                  exact ih11 _ _ (lpK_r h11z) _ _ _ hP hD hS (lv_sub hl [4, 5, 6, 1, 0] rfl) K11_0
        · have hf := o_in c27 hf
          refine lv_iconst (v := 4) hx hb dX6_stems_30 (by decide) ?_
          refine lv_iload_n hx hb dX6_stems_31 rfl (lv_at hl 1 rfl) ?_
          refine lv_imul hx hb dX6_stems_32 ?_
          refine lv_goto (tgt := 52) hx hb dX6_stems_33 (by decide) ?_
          refine lv_istore (lv' := [(5, .int (4 * a1)), (0, .ref (q 0)), (1, .int a1), (2, .int ((3 + a1) - 1)), (3, .int s11.1), (4, .int s11.2.1)]) hx hb dX6_stems_52 hl (by decide) rfl (fun ls hl => ?_)
          refine lv_iload_n hx hb dX6_stems_54 rfl (lv_at hl 4 rfl) ?_
          refine lv_iload hx hb dX6_stems_55 (lv_at hl 0 rfl) ?_
          refine lv_icmp_ge (tgt := 64) hx hb dX6_stems_57 (by decide) (fun c57 => ?_) (fun c57 => ?_)
          · have hf := o_ip c57 hf
            refine lv_iload hx hb dX6_stems_64 (lv_at hl 0 rfl) ?_
            refine lv_istore (lv' := [(6, .int (4 * a1)), (5, .int (4 * a1)), (0, .ref (q 0)), (1, .int a1), (2, .int ((3 + a1) - 1)), (3, .int s11.1), (4, .int s11.2.1)]) hx hb dX6_stems_66 hl (by decide) rfl (fun ls hl => ?_)
            refine lv_aload_n hx hb dX6_stems_68 rfl (lv_at hl 2 rfl) ?_
            refine va_get (ci := 6) (v := .ref (q 10)) (C := RX6) (T := TX6) (N := 26) hx hb hts inlX6 hown hE.1 hP 0 rfl rfl 15 (by decide) (hts _ wB93) (fun _ h9 => h9) rfl dX6_stems_69 ?_
            refine lv_sipush (v := 480) hx hb dX6_stems_72 (by decide) ?_
            refine lv_iload_n hx hb dX6_stems_75 rfl (lv_at hl 4 rfl) ?_
            refine lv_imul hx hb dX6_stems_76 ?_
            refine lv_iconst (v := 4) hx hb dX6_stems_77 (by decide) ?_
            refine lv_iload hx hb dX6_stems_78 (lv_at hl 6 rfl) ?_
            refine lv_imul hx hb dX6_stems_80 ?_
            refine lv_iadd hx hb dX6_stems_81 ?_
            refine lv_iload hx hb dX6_stems_82 (lv_at hl 0 rfl) ?_
            obtain ⟨hg84, hf⟩ := gd_s hf
            refine va_iast (f := (gR s11.2.2 9)) hx hb hE.1 hP hD hS 10 0 rfl rfl hg84 dX6_stems_84 (fun H locs hP hD hS => ?_)
            have hP : va_P D vwCl (WM q cy (sR s11.2.2 9 (upd (gR s11.2.2 9) (((480 * ((3 + a1) - 1)) + (4 * s11.2.1)).toNatClampNeg) (4 * a1))) ++ rest) H := hP
            have hD : va_D A (WM q cy (sR s11.2.2 9 (upd (gR s11.2.2 9) (((480 * ((3 + a1) - 1)) + (4 * s11.2.1)).toNatClampNeg) (4 * a1))) ++ rest) := hD
            refine lv_iload_n hx hb dX6_stems_85 rfl (lv_at hl 5 rfl) ?_
            refine lv_aload_n hx hb dX6_stems_86 rfl (lv_at hl 2 rfl) ?_
            refine va_get (ci := 6) (v := .ref (q 7)) (C := RX6) (T := TX6) (N := 26) hx hb hts inlX6 hown hE.1 hP 0 rfl rfl 11 (by decide) (hts _ wB90) (fun _ h9 => h9) rfl dX6_stems_87 ?_
            refine lv_iload hx hb dX6_stems_90 (lv_at hl 6 rfl) ?_
            obtain ⟨hg92, hf⟩ := gd_s hf
            refine va_iald (f := (gR s11.2.2 6)) hx hb hE.1 hP 7 0 rfl rfl hg92 dX6_stems_92 ?_
            refine lv_iconst (v := 4) hx hb dX6_stems_93 (by decide) ?_
            refine lv_icmp_ne (tgt := 101) hx hb dX6_stems_94 (by decide) (fun c94 => ?_) (fun c94 => ?_)
            · have hf := o_in c94 hf
              refine lv_aload_n hx hb dX6_stems_101 rfl (lv_at hl 2 rfl) ?_
              refine va_get (ci := 6) (v := .ref (q 7)) (C := RX6) (T := TX6) (N := 26) hx hb hts inlX6 hown hE.1 hP 0 rfl rfl 11 (by decide) (hts _ wB90) (fun _ h9 => h9) rfl dX6_stems_102 ?_
              refine lv_iload hx hb dX6_stems_105 (lv_at hl 6 rfl) ?_
              obtain ⟨hg107, hf⟩ := gd_s hf
              refine va_iald (f := (gR s11.2.2 6)) hx hb hE.1 hP 7 0 rfl rfl hg107 dX6_stems_107 ?_
              refine lv_bipush (v := 7) hx hb dX6_stems_108 (by decide) ?_
              refine lv_icmp_ne (tgt := 119) hx hb dX6_stems_110 (by decide) (fun c110 => ?_) (fun c110 => ?_)
              · have hf := o_in c110 hf
                refine lv_iload hx hb dX6_stems_119 (lv_at hl 0 rfl) ?_
                refine lv_ineg hx hb dX6_stems_121 ?_
                refine lv_iadd hx hb dX6_stems_122 ?_
                refine lv_istore_n (lv' := [(3, .int (s11.1 + (-(4 * a1)))), (6, .int (4 * a1)), (5, .int (4 * a1)), (0, .ref (q 0)), (1, .int a1), (2, .int ((3 + a1) - 1)), (4, .int s11.2.1)]) hx hb dX6_stems_123 rfl hl (by decide) rfl (fun ls hl => ?_)
                refine lv_iload_n hx hb dX6_stems_124 rfl (lv_at hl 0 rfl) ?_
                refine lv_bipush (v := 30) hx hb dX6_stems_125 (by decide) ?_
                refine lv_icmp_le (tgt := 135) hx hb dX6_stems_127 (by decide) (fun c127 => ?_) (fun c127 => ?_)
                · have hf := o_ip c127 hf
                  refine lv_iload_n hx hb dX6_stems_135 rfl (lv_at hl 0 rfl) ?_
                  refine lv_istore_n (lv' := [(3, .int (s11.1 + (-(4 * a1)))), (6, .int (4 * a1)), (5, .int (4 * a1)), (0, .ref (q 0)), (1, .int a1), (2, .int ((3 + a1) - 1)), (4, .int s11.2.1)]) hx hb dX6_stems_136 rfl hl (by decide) rfl (fun ls hl => ?_)
                  refine lv_iinc (v := (s11.2.1 + 1)) (lv' := [(4, .int (s11.2.1 + 1)), (3, .int (s11.1 + (-(4 * a1)))), (6, .int (4 * a1)), (5, .int (4 * a1)), (0, .ref (q 0)), (1, .int a1), (2, .int ((3 + a1) - 1))]) hx hb dX6_stems_137 hl (k := 6) rfl (by rfl) (by decide) rfl (fun ls hl => ?_)
                  refine lv_goto (tgt := 11) hx hb dX6_stems_140 (by decide) ?_
                  obtain rfl := o_ret hf
                  exact ih11 _ _ (lpK_r h11z) _ _ _ hP hD hS (lv_sub hl [4, 5, 6, 1, 0] rfl) K11_0
                · have hf := o_in c127 hf
                  refine lv_bipush (v := 30) hx hb dX6_stems_130 (by decide) ?_
                  refine lv_goto (tgt := 136) hx hb dX6_stems_132 (by decide) ?_
                  refine lv_istore_n (lv' := [(3, .int 30), (6, .int (4 * a1)), (5, .int (4 * a1)), (0, .ref (q 0)), (1, .int a1), (2, .int ((3 + a1) - 1)), (4, .int s11.2.1)]) hx hb dX6_stems_136 rfl hl (by decide) rfl (fun ls hl => ?_)
                  refine lv_iinc (v := (s11.2.1 + 1)) (lv' := [(4, .int (s11.2.1 + 1)), (3, .int 30), (6, .int (4 * a1)), (5, .int (4 * a1)), (0, .ref (q 0)), (1, .int a1), (2, .int ((3 + a1) - 1))]) hx hb dX6_stems_137 hl (k := 6) rfl (by rfl) (by decide) rfl (fun ls hl => ?_)
                  refine lv_goto (tgt := 11) hx hb dX6_stems_140 (by decide) ?_
                  obtain rfl := o_ret hf
                  exact ih11 _ _ (lpK_r h11z) _ _ _ hP hD hS (lv_sub hl [4, 5, 6, 1, 0] rfl) K11_0
              · have hf := o_ip c110 hf
                refine lv_iconst (v := 3) hx hb dX6_stems_113 (by decide) ?_
                refine lv_iload_n hx hb dX6_stems_114 rfl (lv_at hl 3 rfl) ?_
                refine lv_imul hx hb dX6_stems_115 ?_
                refine lv_goto (tgt := 122) hx hb dX6_stems_116 (by decide) ?_
                refine lv_iadd hx hb dX6_stems_122 ?_
                refine lv_istore_n (lv' := [(3, .int (s11.1 + (3 * a1))), (6, .int (4 * a1)), (5, .int (4 * a1)), (0, .ref (q 0)), (1, .int a1), (2, .int ((3 + a1) - 1)), (4, .int s11.2.1)]) hx hb dX6_stems_123 rfl hl (by decide) rfl (fun ls hl => ?_)
                refine lv_iload_n hx hb dX6_stems_124 rfl (lv_at hl 0 rfl) ?_
                refine lv_bipush (v := 30) hx hb dX6_stems_125 (by decide) ?_
                refine lv_icmp_le (tgt := 135) hx hb dX6_stems_127 (by decide) (fun c127 => ?_) (fun c127 => ?_)
                · have hf := o_ip c127 hf
                  refine lv_iload_n hx hb dX6_stems_135 rfl (lv_at hl 0 rfl) ?_
                  refine lv_istore_n (lv' := [(3, .int (s11.1 + (3 * a1))), (6, .int (4 * a1)), (5, .int (4 * a1)), (0, .ref (q 0)), (1, .int a1), (2, .int ((3 + a1) - 1)), (4, .int s11.2.1)]) hx hb dX6_stems_136 rfl hl (by decide) rfl (fun ls hl => ?_)
                  refine lv_iinc (v := (s11.2.1 + 1)) (lv' := [(4, .int (s11.2.1 + 1)), (3, .int (s11.1 + (3 * a1))), (6, .int (4 * a1)), (5, .int (4 * a1)), (0, .ref (q 0)), (1, .int a1), (2, .int ((3 + a1) - 1))]) hx hb dX6_stems_137 hl (k := 6) rfl (by rfl) (by decide) rfl (fun ls hl => ?_)
                  refine lv_goto (tgt := 11) hx hb dX6_stems_140 (by decide) ?_
                  obtain rfl := o_ret hf
                  exact ih11 _ _ (lpK_r h11z) _ _ _ hP hD hS (lv_sub hl [4, 5, 6, 1, 0] rfl) K11_0
                · have hf := o_in c127 hf
                  refine lv_bipush (v := 30) hx hb dX6_stems_130 (by decide) ?_
                  refine lv_goto (tgt := 136) hx hb dX6_stems_132 (by decide) ?_
                  refine lv_istore_n (lv' := [(3, .int 30), (6, .int (4 * a1)), (5, .int (4 * a1)), (0, .ref (q 0)), (1, .int a1), (2, .int ((3 + a1) - 1)), (4, .int s11.2.1)]) hx hb dX6_stems_136 rfl hl (by decide) rfl (fun ls hl => ?_)
                  refine lv_iinc (v := (s11.2.1 + 1)) (lv' := [(4, .int (s11.2.1 + 1)), (3, .int 30), (6, .int (4 * a1)), (5, .int (4 * a1)), (0, .ref (q 0)), (1, .int a1), (2, .int ((3 + a1) - 1))]) hx hb dX6_stems_137 hl (k := 6) rfl (by rfl) (by decide) rfl (fun ls hl => ?_)
                  refine lv_goto (tgt := 11) hx hb dX6_stems_140 (by decide) ?_
                  obtain rfl := o_ret hf
                  exact ih11 _ _ (lpK_r h11z) _ _ _ hP hD hS (lv_sub hl [4, 5, 6, 1, 0] rfl) K11_0
            · have hf := o_ip c94 hf
              refine lv_iload_n hx hb dX6_stems_97 rfl (lv_at hl 3 rfl) ?_
              refine lv_goto (tgt := 122) hx hb dX6_stems_98 (by decide) ?_
              refine lv_iadd hx hb dX6_stems_122 ?_
              refine lv_istore_n (lv' := [(3, .int (s11.1 + a1)), (6, .int (4 * a1)), (5, .int (4 * a1)), (0, .ref (q 0)), (1, .int a1), (2, .int ((3 + a1) - 1)), (4, .int s11.2.1)]) hx hb dX6_stems_123 rfl hl (by decide) rfl (fun ls hl => ?_)
              refine lv_iload_n hx hb dX6_stems_124 rfl (lv_at hl 0 rfl) ?_
              refine lv_bipush (v := 30) hx hb dX6_stems_125 (by decide) ?_
              refine lv_icmp_le (tgt := 135) hx hb dX6_stems_127 (by decide) (fun c127 => ?_) (fun c127 => ?_)
              · have hf := o_ip c127 hf
                refine lv_iload_n hx hb dX6_stems_135 rfl (lv_at hl 0 rfl) ?_
                refine lv_istore_n (lv' := [(3, .int (s11.1 + a1)), (6, .int (4 * a1)), (5, .int (4 * a1)), (0, .ref (q 0)), (1, .int a1), (2, .int ((3 + a1) - 1)), (4, .int s11.2.1)]) hx hb dX6_stems_136 rfl hl (by decide) rfl (fun ls hl => ?_)
                refine lv_iinc (v := (s11.2.1 + 1)) (lv' := [(4, .int (s11.2.1 + 1)), (3, .int (s11.1 + a1)), (6, .int (4 * a1)), (5, .int (4 * a1)), (0, .ref (q 0)), (1, .int a1), (2, .int ((3 + a1) - 1))]) hx hb dX6_stems_137 hl (k := 6) rfl (by rfl) (by decide) rfl (fun ls hl => ?_)
                refine lv_goto (tgt := 11) hx hb dX6_stems_140 (by decide) ?_
                obtain rfl := o_ret hf
                exact ih11 _ _ (lpK_r h11z) _ _ _ hP hD hS (lv_sub hl [4, 5, 6, 1, 0] rfl) K11_0
              · have hf := o_in c127 hf
                refine lv_bipush (v := 30) hx hb dX6_stems_130 (by decide) ?_
                refine lv_goto (tgt := 136) hx hb dX6_stems_132 (by decide) ?_
                refine lv_istore_n (lv' := [(3, .int 30), (6, .int (4 * a1)), (5, .int (4 * a1)), (0, .ref (q 0)), (1, .int a1), (2, .int ((3 + a1) - 1)), (4, .int s11.2.1)]) hx hb dX6_stems_136 rfl hl (by decide) rfl (fun ls hl => ?_)
                refine lv_iinc (v := (s11.2.1 + 1)) (lv' := [(4, .int (s11.2.1 + 1)), (3, .int 30), (6, .int (4 * a1)), (5, .int (4 * a1)), (0, .ref (q 0)), (1, .int a1), (2, .int ((3 + a1) - 1))]) hx hb dX6_stems_137 hl (k := 6) rfl (by rfl) (by decide) rfl (fun ls hl => ?_)
                refine lv_goto (tgt := 11) hx hb dX6_stems_140 (by decide) ?_
                obtain rfl := o_ret hf
                exact ih11 _ _ (lpK_r h11z) _ _ _ hP hD hS (lv_sub hl [4, 5, 6, 1, 0] rfl) K11_0
          · have hf := o_in c57 hf
            refine lv_iload_n hx hb dX6_stems_60 rfl (lv_at hl 4 rfl) ?_
            refine lv_goto (tgt := 66) hx hb dX6_stems_61 (by decide) ?_
            refine lv_istore (lv' := [(6, .int s11.1), (5, .int (4 * a1)), (0, .ref (q 0)), (1, .int a1), (2, .int ((3 + a1) - 1)), (3, .int s11.1), (4, .int s11.2.1)]) hx hb dX6_stems_66 hl (by decide) rfl (fun ls hl => ?_)
            refine lv_aload_n hx hb dX6_stems_68 rfl (lv_at hl 2 rfl) ?_
            refine va_get (ci := 6) (v := .ref (q 10)) (C := RX6) (T := TX6) (N := 26) hx hb hts inlX6 hown hE.1 hP 0 rfl rfl 15 (by decide) (hts _ wB93) (fun _ h9 => h9) rfl dX6_stems_69 ?_
            refine lv_sipush (v := 480) hx hb dX6_stems_72 (by decide) ?_
            refine lv_iload_n hx hb dX6_stems_75 rfl (lv_at hl 4 rfl) ?_
            refine lv_imul hx hb dX6_stems_76 ?_
            refine lv_iconst (v := 4) hx hb dX6_stems_77 (by decide) ?_
            refine lv_iload hx hb dX6_stems_78 (lv_at hl 6 rfl) ?_
            refine lv_imul hx hb dX6_stems_80 ?_
            refine lv_iadd hx hb dX6_stems_81 ?_
            refine lv_iload hx hb dX6_stems_82 (lv_at hl 0 rfl) ?_
            obtain ⟨hg84, hf⟩ := gd_s hf
            refine va_iast (f := (gR s11.2.2 9)) hx hb hE.1 hP hD hS 10 0 rfl rfl hg84 dX6_stems_84 (fun H locs hP hD hS => ?_)
            have hP : va_P D vwCl (WM q cy (sR s11.2.2 9 (upd (gR s11.2.2 9) (((480 * ((3 + a1) - 1)) + (4 * s11.2.1)).toNatClampNeg) s11.1)) ++ rest) H := hP
            have hD : va_D A (WM q cy (sR s11.2.2 9 (upd (gR s11.2.2 9) (((480 * ((3 + a1) - 1)) + (4 * s11.2.1)).toNatClampNeg) s11.1)) ++ rest) := hD
            refine lv_iload_n hx hb dX6_stems_85 rfl (lv_at hl 5 rfl) ?_
            refine lv_aload_n hx hb dX6_stems_86 rfl (lv_at hl 2 rfl) ?_
            refine va_get (ci := 6) (v := .ref (q 7)) (C := RX6) (T := TX6) (N := 26) hx hb hts inlX6 hown hE.1 hP 0 rfl rfl 11 (by decide) (hts _ wB90) (fun _ h9 => h9) rfl dX6_stems_87 ?_
            refine lv_iload hx hb dX6_stems_90 (lv_at hl 6 rfl) ?_
            obtain ⟨hg92, hf⟩ := gd_s hf
            refine va_iald (f := (gR s11.2.2 6)) hx hb hE.1 hP 7 0 rfl rfl hg92 dX6_stems_92 ?_
            refine lv_iconst (v := 4) hx hb dX6_stems_93 (by decide) ?_
            refine lv_icmp_ne (tgt := 101) hx hb dX6_stems_94 (by decide) (fun c94 => ?_) (fun c94 => ?_)
            · have hf := o_in c94 hf
              refine lv_aload_n hx hb dX6_stems_101 rfl (lv_at hl 2 rfl) ?_
              refine va_get (ci := 6) (v := .ref (q 7)) (C := RX6) (T := TX6) (N := 26) hx hb hts inlX6 hown hE.1 hP 0 rfl rfl 11 (by decide) (hts _ wB90) (fun _ h9 => h9) rfl dX6_stems_102 ?_
              refine lv_iload hx hb dX6_stems_105 (lv_at hl 6 rfl) ?_
              obtain ⟨hg107, hf⟩ := gd_s hf
              refine va_iald (f := (gR s11.2.2 6)) hx hb hE.1 hP 7 0 rfl rfl hg107 dX6_stems_107 ?_
              refine lv_bipush (v := 7) hx hb dX6_stems_108 (by decide) ?_
              refine lv_icmp_ne (tgt := 119) hx hb dX6_stems_110 (by decide) (fun c110 => ?_) (fun c110 => ?_)
              · have hf := o_in c110 hf
                refine lv_iload hx hb dX6_stems_119 (lv_at hl 0 rfl) ?_
                refine lv_ineg hx hb dX6_stems_121 ?_
                refine lv_iadd hx hb dX6_stems_122 ?_
                refine lv_istore_n (lv' := [(3, .int (s11.1 + (-s11.1))), (6, .int s11.1), (5, .int (4 * a1)), (0, .ref (q 0)), (1, .int a1), (2, .int ((3 + a1) - 1)), (4, .int s11.2.1)]) hx hb dX6_stems_123 rfl hl (by decide) rfl (fun ls hl => ?_)
                refine lv_iload_n hx hb dX6_stems_124 rfl (lv_at hl 0 rfl) ?_
                refine lv_bipush (v := 30) hx hb dX6_stems_125 (by decide) ?_
                refine lv_icmp_le (tgt := 135) hx hb dX6_stems_127 (by decide) (fun c127 => ?_) (fun c127 => ?_)
                · have hf := o_ip c127 hf
                  refine lv_iload_n hx hb dX6_stems_135 rfl (lv_at hl 0 rfl) ?_
                  refine lv_istore_n (lv' := [(3, .int (s11.1 + (-s11.1))), (6, .int s11.1), (5, .int (4 * a1)), (0, .ref (q 0)), (1, .int a1), (2, .int ((3 + a1) - 1)), (4, .int s11.2.1)]) hx hb dX6_stems_136 rfl hl (by decide) rfl (fun ls hl => ?_)
                  refine lv_iinc (v := (s11.2.1 + 1)) (lv' := [(4, .int (s11.2.1 + 1)), (3, .int (s11.1 + (-s11.1))), (6, .int s11.1), (5, .int (4 * a1)), (0, .ref (q 0)), (1, .int a1), (2, .int ((3 + a1) - 1))]) hx hb dX6_stems_137 hl (k := 6) rfl (by rfl) (by decide) rfl (fun ls hl => ?_)
                  refine lv_goto (tgt := 11) hx hb dX6_stems_140 (by decide) ?_
                  obtain rfl := o_ret hf
                  exact ih11 _ _ (lpK_r h11z) _ _ _ hP hD hS (lv_sub hl [4, 5, 6, 1, 0] rfl) K11_0
                · have hf := o_in c127 hf
                  refine lv_bipush (v := 30) hx hb dX6_stems_130 (by decide) ?_
                  refine lv_goto (tgt := 136) hx hb dX6_stems_132 (by decide) ?_
                  refine lv_istore_n (lv' := [(3, .int 30), (6, .int s11.1), (5, .int (4 * a1)), (0, .ref (q 0)), (1, .int a1), (2, .int ((3 + a1) - 1)), (4, .int s11.2.1)]) hx hb dX6_stems_136 rfl hl (by decide) rfl (fun ls hl => ?_)
                  refine lv_iinc (v := (s11.2.1 + 1)) (lv' := [(4, .int (s11.2.1 + 1)), (3, .int 30), (6, .int s11.1), (5, .int (4 * a1)), (0, .ref (q 0)), (1, .int a1), (2, .int ((3 + a1) - 1))]) hx hb dX6_stems_137 hl (k := 6) rfl (by rfl) (by decide) rfl (fun ls hl => ?_)
                  refine lv_goto (tgt := 11) hx hb dX6_stems_140 (by decide) ?_
                  obtain rfl := o_ret hf
                  exact ih11 _ _ (lpK_r h11z) _ _ _ hP hD hS (lv_sub hl [4, 5, 6, 1, 0] rfl) K11_0
              · have hf := o_ip c110 hf
                refine lv_iconst (v := 3) hx hb dX6_stems_113 (by decide) ?_
                refine lv_iload_n hx hb dX6_stems_114 rfl (lv_at hl 3 rfl) ?_
                refine lv_imul hx hb dX6_stems_115 ?_
                refine lv_goto (tgt := 122) hx hb dX6_stems_116 (by decide) ?_
                refine lv_iadd hx hb dX6_stems_122 ?_
                refine lv_istore_n (lv' := [(3, .int (s11.1 + (3 * a1))), (6, .int s11.1), (5, .int (4 * a1)), (0, .ref (q 0)), (1, .int a1), (2, .int ((3 + a1) - 1)), (4, .int s11.2.1)]) hx hb dX6_stems_123 rfl hl (by decide) rfl (fun ls hl => ?_)
                refine lv_iload_n hx hb dX6_stems_124 rfl (lv_at hl 0 rfl) ?_
                refine lv_bipush (v := 30) hx hb dX6_stems_125 (by decide) ?_
                refine lv_icmp_le (tgt := 135) hx hb dX6_stems_127 (by decide) (fun c127 => ?_) (fun c127 => ?_)
                · have hf := o_ip c127 hf
                  refine lv_iload_n hx hb dX6_stems_135 rfl (lv_at hl 0 rfl) ?_
                  refine lv_istore_n (lv' := [(3, .int (s11.1 + (3 * a1))), (6, .int s11.1), (5, .int (4 * a1)), (0, .ref (q 0)), (1, .int a1), (2, .int ((3 + a1) - 1)), (4, .int s11.2.1)]) hx hb dX6_stems_136 rfl hl (by decide) rfl (fun ls hl => ?_)
                  refine lv_iinc (v := (s11.2.1 + 1)) (lv' := [(4, .int (s11.2.1 + 1)), (3, .int (s11.1 + (3 * a1))), (6, .int s11.1), (5, .int (4 * a1)), (0, .ref (q 0)), (1, .int a1), (2, .int ((3 + a1) - 1))]) hx hb dX6_stems_137 hl (k := 6) rfl (by rfl) (by decide) rfl (fun ls hl => ?_)
                  refine lv_goto (tgt := 11) hx hb dX6_stems_140 (by decide) ?_
                  obtain rfl := o_ret hf
                  exact ih11 _ _ (lpK_r h11z) _ _ _ hP hD hS (lv_sub hl [4, 5, 6, 1, 0] rfl) K11_0
                · have hf := o_in c127 hf
                  refine lv_bipush (v := 30) hx hb dX6_stems_130 (by decide) ?_
                  refine lv_goto (tgt := 136) hx hb dX6_stems_132 (by decide) ?_
                  refine lv_istore_n (lv' := [(3, .int 30), (6, .int s11.1), (5, .int (4 * a1)), (0, .ref (q 0)), (1, .int a1), (2, .int ((3 + a1) - 1)), (4, .int s11.2.1)]) hx hb dX6_stems_136 rfl hl (by decide) rfl (fun ls hl => ?_)
                  refine lv_iinc (v := (s11.2.1 + 1)) (lv' := [(4, .int (s11.2.1 + 1)), (3, .int 30), (6, .int s11.1), (5, .int (4 * a1)), (0, .ref (q 0)), (1, .int a1), (2, .int ((3 + a1) - 1))]) hx hb dX6_stems_137 hl (k := 6) rfl (by rfl) (by decide) rfl (fun ls hl => ?_)
                  refine lv_goto (tgt := 11) hx hb dX6_stems_140 (by decide) ?_
                  obtain rfl := o_ret hf
                  exact ih11 _ _ (lpK_r h11z) _ _ _ hP hD hS (lv_sub hl [4, 5, 6, 1, 0] rfl) K11_0
            · have hf := o_ip c94 hf
              refine lv_iload_n hx hb dX6_stems_97 rfl (lv_at hl 3 rfl) ?_
              refine lv_goto (tgt := 122) hx hb dX6_stems_98 (by decide) ?_
              refine lv_iadd hx hb dX6_stems_122 ?_
              refine lv_istore_n (lv' := [(3, .int (s11.1 + a1)), (6, .int s11.1), (5, .int (4 * a1)), (0, .ref (q 0)), (1, .int a1), (2, .int ((3 + a1) - 1)), (4, .int s11.2.1)]) hx hb dX6_stems_123 rfl hl (by decide) rfl (fun ls hl => ?_)
              refine lv_iload_n hx hb dX6_stems_124 rfl (lv_at hl 0 rfl) ?_
              refine lv_bipush (v := 30) hx hb dX6_stems_125 (by decide) ?_
              refine lv_icmp_le (tgt := 135) hx hb dX6_stems_127 (by decide) (fun c127 => ?_) (fun c127 => ?_)
              · have hf := o_ip c127 hf
                refine lv_iload_n hx hb dX6_stems_135 rfl (lv_at hl 0 rfl) ?_
                refine lv_istore_n (lv' := [(3, .int (s11.1 + a1)), (6, .int s11.1), (5, .int (4 * a1)), (0, .ref (q 0)), (1, .int a1), (2, .int ((3 + a1) - 1)), (4, .int s11.2.1)]) hx hb dX6_stems_136 rfl hl (by decide) rfl (fun ls hl => ?_)
                refine lv_iinc (v := (s11.2.1 + 1)) (lv' := [(4, .int (s11.2.1 + 1)), (3, .int (s11.1 + a1)), (6, .int s11.1), (5, .int (4 * a1)), (0, .ref (q 0)), (1, .int a1), (2, .int ((3 + a1) - 1))]) hx hb dX6_stems_137 hl (k := 6) rfl (by rfl) (by decide) rfl (fun ls hl => ?_)
                refine lv_goto (tgt := 11) hx hb dX6_stems_140 (by decide) ?_
                obtain rfl := o_ret hf
                exact ih11 _ _ (lpK_r h11z) _ _ _ hP hD hS (lv_sub hl [4, 5, 6, 1, 0] rfl) K11_0
              · have hf := o_in c127 hf
                refine lv_bipush (v := 30) hx hb dX6_stems_130 (by decide) ?_
                refine lv_goto (tgt := 136) hx hb dX6_stems_132 (by decide) ?_
                refine lv_istore_n (lv' := [(3, .int 30), (6, .int s11.1), (5, .int (4 * a1)), (0, .ref (q 0)), (1, .int a1), (2, .int ((3 + a1) - 1)), (4, .int s11.2.1)]) hx hb dX6_stems_136 rfl hl (by decide) rfl (fun ls hl => ?_)
                refine lv_iinc (v := (s11.2.1 + 1)) (lv' := [(4, .int (s11.2.1 + 1)), (3, .int 30), (6, .int s11.1), (5, .int (4 * a1)), (0, .ref (q 0)), (1, .int a1), (2, .int ((3 + a1) - 1))]) hx hb dX6_stems_137 hl (k := 6) rfl (by rfl) (by decide) rfl (fun ls hl => ?_)
                refine lv_goto (tgt := 11) hx hb dX6_stems_140 (by decide) ?_
                obtain rfl := o_ret hf
                exact ih11 _ _ (lpK_r h11z) _ _ _ hP hD hS (lv_sub hl [4, 5, 6, 1, 0] rfl) K11_0
  obtain ⟨e11, h11q, hf⟩ := o_bs hf
  obtain ⟨n11v, h11q⟩ := lpF_ex h11q
  refine L11 n11v _ e11 h11q _ _ _ hP hD hS (lv_sub hl [3, 4, 2, 1, 0] rfl) ?_
  intro H locs ls hP hD hS hl
  obtain rfl := o_ret hf
  exact k_vret hx hb hr hP hD hS (Nat.zero_le _) (Nat.zero_le _) hlocks dX6_stems_143
