noncomputable def mX1_restOf_s8 (n0 : Nat) (f0 : Nat → Int64) (c1 : Int32) (s8 : Int64 × Int32) : Option ((Int64) ⊕ (Int64 × Int32)) :=
  if s8.2 < 0 then
  (some (.inl s8.1))
  else
  (if c1 ≤ 0 then
  (some (.inl s8.1))
  else
  ((mX5_at_ n0 f0 s8.2).bind fun r24 =>
  gd (¬ (c1.toInt64) = (0 : Int64)) (some (.inr ((((s8.1 <<< ((30 : Int32).toInt64 &&& 63)) + r24) - ((s8.1 <<< ((30 : Int32).toInt64 &&& 63)) + r24) / (c1.toInt64) * (c1.toInt64)), (s8.2 + (-1)))))))
noncomputable def mX1_restOf (n0 : Nat) (f0 : Nat → Int64) (a1 : Int32) : Option (Int64) :=
  (lpF (mX1_restOf_s8 n0 f0 a1) (0, ((Int32.ofNat n0) - 1))).bind fun e8 =>
  some e8
abbrev rmX1_restOf : Room := { frames := 1, cells := 0, slots := 0, locals := 21 }
set_option maxRecDepth 100000 in
set_option maxHeartbeats 4000000 in
theorem zX1_restOf (l : Launch) (D : va_G) (cy : Nat → ClassId) (sa : Nat → Nat) (ws : va_W) (sz : Nat) (k0 d0 n0 : Nat) (f0 : Nat → Int64) (a1 : Int32) (res : Int64) (ha0 : ws[k0]? = some (kIJ d0 (cy 1) n0 f0)) (hf : mX1_restOf n0 f0 a1 = some res) : kMl l yX1_restOf (wsK yX1_restOf cX1_restOf 5 (some .long)) rmX1_restOf D cy sa (ws) sz [.ref d0, .int a1] res (ws) 0 0 := by
  refine kM_of (Qc := fun A => kQl D A res (ws)) (cc := cX1_restOf) (maxL := 5) (ret := (some .long)) (by decide) (Nat.le_of_ble_eq_true rfl) ?_
  intro p e s m below meth c A hx hb hml hr hts hown hlocks hin hA hP hD hS hE hsz ls hl
  have hown : s.vm.findClass RX1 = some m.cls := hown
  obtain ⟨H, hH0⟩ : ∃ H, H = s.heap := ⟨_, rfl⟩
  obtain ⟨locs, hlocs0⟩ : ∃ locs : List Loc, locs = [] := ⟨_, rfl⟩
  have hP : va_P D vwCl (ws) H := by rw [hH0]; exact hP
  have hS : va_S A s.heap H locs := by rw [hH0, hlocs0]; exact hS
  have hl : lv_has ls 5 [(0, .ref d0), (1, .int a1)] := hl
  suffices hgoal : W p l e rmX1_restOf s m ([.ref d0, .int a1] : List Value).toArray below meth c H locs 0 0 (MQ below (kQl D A res (ws)) ([.ref d0, .int a1] : List Value).toArray s 0 0 A) (F0 m 0 ls []) by rw [hH0, hlocs0] at hgoal; exact hgoal
  clear hH0 hlocs0
  unfold mX1_restOf at hf
  refine lv_lconst (v := 0) hx hb dX1_restOf_0 (by decide) ?_
  refine lv_lstore_n (lv' := [(2, .long 0), (0, .ref d0), (1, .int a1)]) hx hb dX1_restOf_1 rfl hl (by decide) rfl (fun ls hl => ?_)
  refine lv_aload_n hx hb dX1_restOf_2 rfl (lv_at hl 1 rfl) ?_
  refine va_alen (v := (Int32.ofNat n0)) hx hb hE.1 hP k0 1 ha0 rfl rfl dX1_restOf_3 ?_
  refine lv_iconst (v := 1) hx hb dX1_restOf_4 (by decide) ?_
  refine lv_isub hx hb dX1_restOf_5 ?_
  refine lv_istore (lv' := [(4, .int ((Int32.ofNat n0) - 1)), (2, .long 0), (0, .ref d0), (1, .int a1)]) hx hb dX1_restOf_6 hl (by decide) rfl (fun ls hl => ?_)
  have L8 : ∀ (n8v : Nat) (s8 : Int64 × Int32) (e8 : Int64), lpO (mX1_restOf_s8 n0 f0 a1) n8v s8 = some e8 → ∀ (H : Heap) (locs : List Loc) (ls : Array Slot), va_P D vwCl (ws) H → va_D A (ws) → va_S A s.heap H locs → lv_has ls 5 [(0, .ref d0), (1, .int a1), (2, .long s8.1), (4, .int s8.2)] → (∀ (H : Heap) (locs : List Loc) (ls : Array Slot), va_P D vwCl (ws) H → va_D A (ws) → va_S A s.heap H locs → lv_has ls 5 [(2, .long e8)] → W p l e rmX1_restOf s m ([.ref d0, .int a1] : List Value).toArray below meth c H locs 0 0 (MQ below (kQl D A res (ws)) ([.ref d0, .int a1] : List Value).toArray s 0 0 A) (F0 m 38 ls [])) → W p l e rmX1_restOf s m ([.ref d0, .int a1] : List Value).toArray below meth c H locs 0 0 (MQ below (kQl D A res (ws)) ([.ref d0, .int a1] : List Value).toArray s 0 0 A) (F0 m 8 ls []) := by
    intro n8v
    induction n8v with
    | zero => intro s8 e8 h; exact (lpO_z h).elim
    | succ n8v ih8 =>
      intro s8 e8 h8z H locs ls hP hD hS hl K8_0
      obtain ⟨x8, hf, h8z⟩ := lpO_s h8z
      unfold mX1_restOf_s8 at hf
      refine lv_iload hx hb dX1_restOf_8 (lv_at hl 3 rfl) ?_
      refine lv_if_lt (tgt := 38) hx hb dX1_restOf_10 (by decide) (fun c10 => ?_) (fun c10 => ?_)
      · have hf := o_ip c10 hf
        obtain rfl := o_ret hf
        obtain rfl := lpK_l h8z
        exact K8_0 _ _ _ hP hD hS (lv_sub hl [2] rfl)
      · have hf := o_in c10 hf
        refine lv_iload_n hx hb dX1_restOf_13 rfl (lv_at hl 1 rfl) ?_
        refine lv_if_le (tgt := 38) hx hb dX1_restOf_14 (by decide) (fun c14 => ?_) (fun c14 => ?_)
        · have hf := o_ip c14 hf
          obtain rfl := o_ret hf
          obtain rfl := lpK_l h8z
          exact K8_0 _ _ _ hP hD hS (lv_sub hl [2] rfl)
        · have hf := o_in c14 hf
          refine lv_lload_n hx hb dX1_restOf_17 rfl (lv_at hl 2 rfl) ?_
          refine lv_bipush (v := 30) hx hb dX1_restOf_18 (by decide) ?_
          refine lv_lshl (v := (s8.1 <<< ((30 : Int32).toInt64 &&& 63))) hx hb dX1_restOf_20 rfl ?_
          refine lv_aload_n hx hb dX1_restOf_21 rfl (lv_at hl 0 rfl) ?_
          refine lv_iload hx hb dX1_restOf_22 (lv_at hl 3 rfl) ?_
          obtain ⟨r24, h24r, hf⟩ := o_bs hf
          refine k_gol (va_runSN (As := [.ref d0, .int s8.2]) (rest := [.long (s8.1 <<< ((30 : Int32).toInt64 &&& 63))]) ⟨hx, hb, hml, hown, hts⟩ (zX5_at_ l D cy sa (ws) H.size k0 d0 n0 f0 s8.2 r24 ha0 h24r) ⟨va_cnB 2 hts (gB_K wB414) rfl rfl rfl (hE.2.1.1 _ (List.mem_of_getElem? (i := 6) rfl)) (hts _ wB2) (by decide +kernel) ⟨Nat.le_of_ble_eq_true rfl, Nat.le_of_ble_eq_true rfl⟩, hts _ wB413, trivial⟩ ⟨kP.blind, k_pre hP hD hS hE hA⟩ rfl rfl hl.1 rfl (lv_room (Nat.le_of_ble_eq_true rfl)) dX1_restOf_24 ⟨Nat.zero_le _, Nat.zero_le _⟩) hD hS hA (fun H locs hP hD hS => ?_)
          refine lv_ladd hx hb dX1_restOf_27 ?_
          refine lv_iload_n hx hb dX1_restOf_28 rfl (lv_at hl 1 rfl) ?_
          refine lv_i2l (v := (a1.toInt64)) hx hb dX1_restOf_29 rfl ?_
          obtain ⟨hg30, hf⟩ := gd_s hf
          refine lv_lrem hx hb dX1_restOf_30 hg30 ?_
          refine lv_lstore_n (lv' := [(2, .long (((s8.1 <<< ((30 : Int32).toInt64 &&& 63)) + r24) - ((s8.1 <<< ((30 : Int32).toInt64 &&& 63)) + r24) / (a1.toInt64) * (a1.toInt64))), (0, .ref d0), (1, .int a1), (4, .int s8.2)]) hx hb dX1_restOf_31 rfl hl (by decide) rfl (fun ls hl => ?_)
          refine lv_iinc (v := (s8.2 + (-1))) (lv' := [(4, .int (s8.2 + (-1))), (2, .long (((s8.1 <<< ((30 : Int32).toInt64 &&& 63)) + r24) - ((s8.1 <<< ((30 : Int32).toInt64 &&& 63)) + r24) / (a1.toInt64) * (a1.toInt64))), (0, .ref d0), (1, .int a1)]) hx hb dX1_restOf_32 hl (k := 3) rfl (by rfl) (by decide) rfl (fun ls hl => ?_)
          refine lv_goto (tgt := 8) hx hb dX1_restOf_35 (by decide) ?_
          obtain rfl := o_ret hf
          exact ih8 _ _ (lpK_r h8z) _ _ _ hP hD hS (lv_sub hl [2, 3, 1, 0] rfl) K8_0
  obtain ⟨e8, h8q, hf⟩ := o_bs hf
  obtain ⟨n8v, h8q⟩ := lpF_ex h8q
  refine L8 n8v _ e8 h8q _ _ _ hP hD hS (lv_sub hl [2, 3, 1, 0] rfl) ?_
  intro H locs ls hP hD hS hl
  refine lv_lload_n hx hb dX1_restOf_38 rfl (lv_at hl 0 rfl) ?_
  obtain rfl := o_ret hf
  exact k_lret hx hb hr hP hD hS (Nat.zero_le _) (Nat.zero_le _) hlocks dX1_restOf_39
noncomputable def mX1_lower_s2 (c1 : Int32) (c2 : Int32) (s2 : Int32 × KS) : Option ((KS ⊕ KS) ⊕ (Int32 × KS)) :=
  if c2 ≤ s2.1 then
  (some (.inl (.inl s2.2)))
  else
  ((mX1_restOf 3 (gA s2.2 2) c1).bind fun r12 =>
  if (lg_cmp r12 0) = 0 then
  ((mX1_restOf 3 (gA s2.2 3) c1).bind fun r25 =>
  if (lg_cmp r25 0) = 0 then
  ((mX1_divide 3 (gA s2.2 2) c1).bind fun r39 =>
  (mX1_divide 3 (gA s2.2 3) c1).bind fun r47 =>
  some (.inr ((s2.1 + 1), (sA (sA s2.2 2 r39) 3 r47))))
  else
  (some (.inl (.inr s2.2))))
  else
  (some (.inl (.inr s2.2))))
noncomputable def mX1_lower (u : KS) (a1 : Int32) (a2 : Int32) : Option (KS) :=
  (lpF (mX1_lower_s2 a1 a2) (0, u)).bind (oE (fun e2_0 => some e2_0) (fun e2_1 => some e2_1))
abbrev rmX1_lower : Room := { frames := 2, cells := 0, slots := 0, locals := 49 }
set_option maxRecDepth 100000 in
set_option maxHeartbeats 4000000 in
theorem zX1_lower (l : Launch) (D : va_G) (cy : Nat → ClassId) (sa : Nat → Nat) (q : Nat → Nat) (rest : va_W) (sz : Nat) (u : KS) (a1 : Int32) (a2 : Int32) (res : KS) (hf : mX1_lower u a1 a2 = some res) : kMv l yX1_lower (wsK yX1_lower cX1_lower 4 none) rmX1_lower D cy sa (WX q cy u ++ rest) sz [.ref (q 21), .int a1, .int a2] (WX q cy res ++ rest) 0 0 := by
  refine kM_of (Qc := fun A => kQv D A (WX q cy res ++ rest)) (cc := cX1_lower) (maxL := 4) (ret := none) (by decide) (Nat.le_of_ble_eq_true rfl) ?_
  intro p e s m below meth c A hx hb hml hr hts hown hlocks hin hA hP hD hS hE hsz ls hl
  have hown : s.vm.findClass RX1 = some m.cls := hown
  obtain ⟨H, hH0⟩ : ∃ H, H = s.heap := ⟨_, rfl⟩
  obtain ⟨locs, hlocs0⟩ : ∃ locs : List Loc, locs = [] := ⟨_, rfl⟩
  have hP : va_P D vwCl (WX q cy u ++ rest) H := by rw [hH0]; exact hP
  have hS : va_S A s.heap H locs := by rw [hH0, hlocs0]; exact hS
  have hl : lv_has ls 4 [(0, .ref (q 21)), (1, .int a1), (2, .int a2)] := hl
  suffices hgoal : W p l e rmX1_lower s m ([.ref (q 21), .int a1, .int a2] : List Value).toArray below meth c H locs 0 0 (MQ below (kQv D A (WX q cy res ++ rest)) ([.ref (q 21), .int a1, .int a2] : List Value).toArray s 0 0 A) (F0 m 0 ls []) by rw [hH0, hlocs0] at hgoal; exact hgoal
  clear hH0 hlocs0
  unfold mX1_lower at hf
  refine lv_iconst (v := 0) hx hb dX1_lower_0 (by decide) ?_
  refine lv_istore_n (lv' := [(3, .int 0), (0, .ref (q 21)), (1, .int a1), (2, .int a2)]) hx hb dX1_lower_1 rfl hl (by decide) rfl (fun ls hl => ?_)
  have L2 : ∀ (n2v : Nat) (s2 : Int32 × KS) (e2 : KS ⊕ KS), lpO (mX1_lower_s2 a1 a2) n2v s2 = some e2 → ∀ (H : Heap) (locs : List Loc) (ls : Array Slot), va_P D vwCl (WX q cy s2.2 ++ rest) H → va_D A (WX q cy s2.2 ++ rest) → va_S A s.heap H locs → lv_has ls 4 [(0, .ref (q 21)), (1, .int a1), (2, .int a2), (3, .int s2.1)] → (∀ e2_0 : KS, e2 = (.inl e2_0) → ∀ (H : Heap) (locs : List Loc) (ls : Array Slot), va_P D vwCl (WX q cy e2_0 ++ rest) H → va_D A (WX q cy e2_0 ++ rest) → va_S A s.heap H locs → lv_has ls 4 [] → W p l e rmX1_lower s m ([.ref (q 21), .int a1, .int a2] : List Value).toArray below meth c H locs 0 0 (MQ below (kQv D A (WX q cy res ++ rest)) ([.ref (q 21), .int a1, .int a2] : List Value).toArray s 0 0 A) (F0 m 56 ls [])) → (∀ e2_1 : KS, e2 = (.inr e2_1) → ∀ (H : Heap) (locs : List Loc) (ls : Array Slot), va_P D vwCl (WX q cy e2_1 ++ rest) H → va_D A (WX q cy e2_1 ++ rest) → va_S A s.heap H locs → lv_has ls 4 [] → W p l e rmX1_lower s m ([.ref (q 21), .int a1, .int a2] : List Value).toArray below meth c H locs 0 0 (MQ below (kQv D A (WX q cy res ++ rest)) ([.ref (q 21), .int a1, .int a2] : List Value).toArray s 0 0 A) (F0 m 33 ls [])) → W p l e rmX1_lower s m ([.ref (q 21), .int a1, .int a2] : List Value).toArray below meth c H locs 0 0 (MQ below (kQv D A (WX q cy res ++ rest)) ([.ref (q 21), .int a1, .int a2] : List Value).toArray s 0 0 A) (F0 m 2 ls []) := by
    intro n2v
    induction n2v with
    | zero => intro s2 e2 h; exact (lpO_z h).elim
    | succ n2v ih2 =>
      intro s2 e2 h2z H locs ls hP hD hS hl K2_0 K2_1
      obtain ⟨x2, hf, h2z⟩ := lpO_s h2z
      unfold mX1_lower_s2 at hf
      refine lv_iload_n hx hb dX1_lower_2 rfl (lv_at hl 3 rfl) ?_
      refine lv_iload_n hx hb dX1_lower_3 rfl (lv_at hl 2 rfl) ?_
      refine lv_icmp_ge (tgt := 56) hx hb dX1_lower_4 (by decide) (fun c4 => ?_) (fun c4 => ?_)
      · have hf := o_ip c4 hf
        obtain rfl := o_ret hf
        obtain rfl := lpK_l h2z
        exact K2_0 _ rfl _ _ _ hP hD hS (lv_sub hl [] rfl)
      · have hf := o_in c4 hf
        refine lv_aload_n hx hb dX1_lower_7 rfl (lv_at hl 0 rfl) ?_
        refine va_get (ci := 1) (v := .ref (q 22)) (C := RX1) (T := TX1) (N := 5) hx hb hts inlX1 hown hE.1 hP 21 rfl rfl 0 (by decide) (hts _ wB70) (fun _ h9 => h9) rfl dX1_lower_8 ?_
        refine lv_iload_n hx hb dX1_lower_11 rfl (lv_at hl 1 rfl) ?_
        obtain ⟨r12, h12r, hf⟩ := o_bs hf
        refine k_gol (va_runS (As := [.ref (q 22), .int a1]) (rest := []) ⟨hx, hb, hml, hown, hts⟩ (zX1_restOf l D cy sa (WX q cy s2.2 ++ rest) H.size 22 (q 22) 3 (gA s2.2 2) a1 r12 rfl h12r) (va_cwS 2 hts (gB_S wB531 wB532 wB32 wB533) rfl rfl rfl (by decide +kernel) ⟨Nat.le_of_ble_eq_true rfl, Nat.le_of_ble_eq_true rfl⟩) ⟨kP.blind, k_pre hP hD hS hE hA⟩ rfl rfl hl.1 rfl (lv_room (Nat.le_of_ble_eq_true rfl)) dX1_lower_12 ⟨Nat.zero_le _, Nat.zero_le _⟩) hD hS hA (fun H locs hP hD hS => ?_)
        refine lv_lconst (v := 0) hx hb dX1_lower_15 (by decide) ?_
        refine W.lcmp hx hb dX1_lower_16 ?_
        refine lv_if_ne (tgt := 33) hx hb dX1_lower_17 (by decide) (fun c17 => ?_) (fun c17 => ?_)
        · have hf := o_in c17 hf
          obtain rfl := o_ret hf
          obtain rfl := lpK_l h2z
          exact K2_1 _ rfl _ _ _ hP hD hS (lv_sub hl [] rfl)
        · have hf := o_ip c17 hf
          refine lv_aload_n hx hb dX1_lower_20 rfl (lv_at hl 0 rfl) ?_
          refine va_get (ci := 1) (v := .ref (q 23)) (C := RX1) (T := TX1) (N := 5) hx hb hts inlX1 hown hE.1 hP 21 rfl rfl 1 (by decide) (hts _ wB71) (fun _ h9 => h9) rfl dX1_lower_21 ?_
          refine lv_iload_n hx hb dX1_lower_24 rfl (lv_at hl 1 rfl) ?_
          obtain ⟨r25, h25r, hf⟩ := o_bs hf
          refine k_gol (va_runS (As := [.ref (q 23), .int a1]) (rest := []) ⟨hx, hb, hml, hown, hts⟩ (zX1_restOf l D cy sa (WX q cy s2.2 ++ rest) H.size 23 (q 23) 3 (gA s2.2 3) a1 r25 rfl h25r) (va_cwS 2 hts (gB_S wB531 wB532 wB32 wB533) rfl rfl rfl (by decide +kernel) ⟨Nat.le_of_ble_eq_true rfl, Nat.le_of_ble_eq_true rfl⟩) ⟨kP.blind, k_pre hP hD hS hE hA⟩ rfl rfl hl.1 rfl (lv_room (Nat.le_of_ble_eq_true rfl)) dX1_lower_25 ⟨Nat.zero_le _, Nat.zero_le _⟩) hD hS hA (fun H locs hP hD hS => ?_)
          refine lv_lconst (v := 0) hx hb dX1_lower_28 (by decide) ?_
          refine W.lcmp hx hb dX1_lower_29 ?_
          refine lv_if_eq (tgt := 34) hx hb dX1_lower_30 (by decide) (fun c30 => ?_) (fun c30 => ?_)
          · have hf := o_ip c30 hf
            refine lv_aload_n hx hb dX1_lower_34 rfl (lv_at hl 0 rfl) ?_
            refine va_get (ci := 1) (v := .ref (q 22)) (C := RX1) (T := TX1) (N := 5) hx hb hts inlX1 hown hE.1 hP 21 rfl rfl 0 (by decide) (hts _ wB70) (fun _ h9 => h9) rfl dX1_lower_35 ?_
            refine lv_iload_n hx hb dX1_lower_38 rfl (lv_at hl 1 rfl) ?_
            obtain ⟨r39, h39r, hf⟩ := o_bs hf
            refine k_gov (va_runS (As := [.ref (q 22), .int a1]) (rest := []) ⟨hx, hb, hml, hown, hts⟩ (zX1_divide l D cy sa (WX q cy s2.2 ++ rest) H.size 22 (q 22) 3 (gA s2.2 2) a1 r39 rfl h39r) (va_cwS 2 hts (gB_S wB534 wB535 wB32 wB536) rfl rfl rfl (by decide +kernel) ⟨Nat.le_of_ble_eq_true rfl, Nat.le_of_ble_eq_true rfl⟩) ⟨kP.blind, k_pre hP hD hS hE hA⟩ rfl rfl hl.1 rfl (lv_room (Nat.le_of_ble_eq_true rfl)) dX1_lower_39 ⟨Nat.zero_le _, Nat.zero_le _⟩) hD hS hA (fun H locs hP hD hS => ?_)
            have hP : va_P D vwCl (WX q cy (sA s2.2 2 r39) ++ rest) H := hP
            have hD : va_D A (WX q cy (sA s2.2 2 r39) ++ rest) := hD
            refine lv_aload_n hx hb dX1_lower_42 rfl (lv_at hl 0 rfl) ?_
            refine va_get (ci := 1) (v := .ref (q 23)) (C := RX1) (T := TX1) (N := 5) hx hb hts inlX1 hown hE.1 hP 21 rfl rfl 1 (by decide) (hts _ wB71) (fun _ h9 => h9) rfl dX1_lower_43 ?_
            refine lv_iload_n hx hb dX1_lower_46 rfl (lv_at hl 1 rfl) ?_
            obtain ⟨r47, h47r, hf⟩ := o_bs hf
            refine k_gov (va_runS (As := [.ref (q 23), .int a1]) (rest := []) ⟨hx, hb, hml, hown, hts⟩ (zX1_divide l D cy sa (WX q cy (sA s2.2 2 r39) ++ rest) H.size 23 (q 23) 3 (gA s2.2 3) a1 r47 rfl h47r) (va_cwS 2 hts (gB_S wB534 wB535 wB32 wB536) rfl rfl rfl (by decide +kernel) ⟨Nat.le_of_ble_eq_true rfl, Nat.le_of_ble_eq_true rfl⟩) ⟨kP.blind, k_pre hP hD hS hE hA⟩ rfl rfl hl.1 rfl (lv_room (Nat.le_of_ble_eq_true rfl)) dX1_lower_47 ⟨Nat.zero_le _, Nat.zero_le _⟩) hD hS hA (fun H locs hP hD hS => ?_)
            have hQ : ∀ (xb : KS) (x0 : (Nat → Int64)) (xn : (Nat → Int64)), (WX q cy (sA xb 2 x0) ++ rest).set 23 (q 23, .inl (cy 1, 3, .inr (.inl xn))) = WX q cy (sA (sA xb 2 x0) 3 xn) ++ rest := fun _ _ _ => rfl
            have hP : va_P D vwCl (WX q cy (sA (sA s2.2 2 r39) 3 r47) ++ rest) H := k_wP (hQ s2.2 r39 r47) hP
            have hD : va_D A (WX q cy (sA (sA s2.2 2 r39) 3 r47) ++ rest) := k_wD (hQ s2.2 r39 r47) hD
            clear hQ
            refine lv_iinc (v := (s2.1 + 1)) (lv' := [(3, .int (s2.1 + 1)), (0, .ref (q 21)), (1, .int a1), (2, .int a2)]) hx hb dX1_lower_50 hl (k := 3) rfl (by rfl) (by decide) rfl (fun ls hl => ?_)
            refine lv_goto (tgt := 2) hx hb dX1_lower_53 (by decide) ?_
            obtain rfl := o_ret hf
            exact ih2 _ _ (lpK_r h2z) _ _ _ hP hD hS (lv_sub hl [1, 2, 3, 0] rfl) K2_0 K2_1
          · have hf := o_in c30 hf
            obtain rfl := o_ret hf
            obtain rfl := lpK_l h2z
            exact K2_1 _ rfl _ _ _ hP hD hS (lv_sub hl [] rfl)
  obtain ⟨e2, h2q, hf⟩ := o_bs hf
  obtain ⟨n2v, h2q⟩ := lpF_ex h2q
  refine L2 n2v _ e2 h2q _ _ _ hP hD hS (lv_sub hl [1, 2, 3, 0] rfl) ?_ ?_
  · intro e2_0 ez2 H locs ls hP hD hS hl
    subst ez2
    have hf := oE_l hf
    obtain rfl := o_ret hf
    exact k_vret hx hb hr hP hD hS (Nat.zero_le _) (Nat.zero_le _) hlocks dX1_lower_56
  · intro e2_1 ez2 H locs ls hP hD hS hl
    subst ez2
    have hf := oE_r hf
    obtain rfl := o_ret hf
    exact k_vret hx hb hr hP hD hS (Nat.zero_le _) (Nat.zero_le _) hlocks dX1_lower_33
noncomputable def mX1_mix_s6 (n0 : Nat) (n1 : Nat) (f1 : Nat → Int64) (c1 : Int32) (c3 : Int32) (s6 : Int64 × Int32 × ((Nat → Int64))) : Option ((((Nat → Int64))) ⊕ (Int64 × Int32 × ((Nat → Int64)))) :=
  if (Int32.ofNat n0) ≤ s6.2.1 then
  (some (.inl s6.2.2))
  else
  (gd (inb s6.2.1 n0) ((mX5_at_ n1 f1 s6.2.1).bind fun r23 =>
  gd (inb s6.2.1 n0) (some (.inr ((((((s6.2.2 (s6.2.1.toNatClampNeg)) * (c1.toInt64)) + (r23 * (c3.toInt64))) + s6.1) >>> ((30 : Int32).toInt64 &&& 63)), (s6.2.1 + 1), (vp_updL s6.2.2 (s6.2.1.toNatClampNeg) (((((s6.2.2 (s6.2.1.toNatClampNeg)) * (c1.toInt64)) + (r23 * (c3.toInt64))) + s6.1) &&& 1073741823)))))))
noncomputable def mX1_mix (n0 : Nat) (f0 : Nat → Int64) (n1 : Nat) (f1 : Nat → Int64) (a1 : Int32) (a3 : Int32) : Option (((Nat → Int64))) :=
  (lpF (mX1_mix_s6 n0 n1 f1 a1 a3) (0, 0, f0)).bind fun e6 =>
  some e6
abbrev rmX1_mix : Room := { frames := 1, cells := 0, slots := 0, locals := 21 }
set_option maxRecDepth 100000 in
set_option maxHeartbeats 4000000 in
theorem zX1_mix (l : Launch) (D : va_G) (cy : Nat → ClassId) (sa : Nat → Nat) (ws : va_W) (sz : Nat) (k0 d0 n0 : Nat) (f0 : Nat → Int64) (k1 d1 n1 : Nat) (f1 : Nat → Int64) (a1 : Int32) (a3 : Int32) (res : ((Nat → Int64))) (ha0 : ws[k0]? = some (kIJ d0 (cy 1) n0 f0)) (ha1 : ws[k1]? = some (kIJ d1 (cy 1) n1 f1)) (hk01 : k0 ≠ k1) (hf : mX1_mix n0 f0 n1 f1 a1 a3 = some res) : kMv l yX1_mix (wsK yX1_mix cX1_mix 9 none) rmX1_mix D cy sa (ws) sz [.ref d0, .int a1, .ref d1, .int a3] ((ws.set k0 (kIJ d0 (cy 1) n0 res))) 0 0 := by
  refine kM_of (Qc := fun A => kQv D A ((ws.set k0 (kIJ d0 (cy 1) n0 res)))) (cc := cX1_mix) (maxL := 9) (ret := none) (by decide) (Nat.le_of_ble_eq_true rfl) ?_
  intro p e s m below meth c A hx hb hml hr hts hown hlocks hin hA hP hD hS hE hsz ls hl
  have hown : s.vm.findClass RX1 = some m.cls := hown
  have hk10 : k1 ≠ k0 := fun h => hk01 h.symm
  obtain ⟨H, hH0⟩ : ∃ H, H = s.heap := ⟨_, rfl⟩
  obtain ⟨locs, hlocs0⟩ : ∃ locs : List Loc, locs = [] := ⟨_, rfl⟩
  have hP : va_P D vwCl (ws) H := by rw [hH0]; exact hP
  have hS : va_S A s.heap H locs := by rw [hH0, hlocs0]; exact hS
  have hl : lv_has ls 9 [(0, .ref d0), (1, .int a1), (2, .ref d1), (3, .int a3)] := hl
  suffices hgoal : W p l e rmX1_mix s m ([.ref d0, .int a1, .ref d1, .int a3] : List Value).toArray below meth c H locs 0 0 (MQ below (kQv D A ((ws.set k0 (kIJ d0 (cy 1) n0 res)))) ([.ref d0, .int a1, .ref d1, .int a3] : List Value).toArray s 0 0 A) (F0 m 0 ls []) by rw [hH0, hlocs0] at hgoal; exact hgoal
  clear hH0 hlocs0
  unfold mX1_mix at hf
  refine lv_lconst (v := 0) hx hb dX1_mix_0 (by decide) ?_
  refine lv_lstore (lv' := [(4, .long 0), (0, .ref d0), (1, .int a1), (2, .ref d1), (3, .int a3)]) hx hb dX1_mix_1 hl (by decide) rfl (fun ls hl => ?_)
  refine lv_iconst (v := 0) hx hb dX1_mix_3 (by decide) ?_
  refine lv_istore (lv' := [(6, .int 0), (4, .long 0), (0, .ref d0), (1, .int a1), (2, .ref d1), (3, .int a3)]) hx hb dX1_mix_4 hl (by decide) rfl (fun ls hl => ?_)
  have hP : va_P D vwCl ((ws.set k0 (kIJ d0 (cy 1) n0 f0))) H := by rw [k_setself ha0]; exact hP
  have hD : va_D A ((ws.set k0 (kIJ d0 (cy 1) n0 f0))) := by rw [k_setself ha0]; exact hD
  have L6 : ∀ (n6v : Nat) (s6 : Int64 × Int32 × ((Nat → Int64))) (e6 : ((Nat → Int64))), lpO (mX1_mix_s6 n0 n1 f1 a1 a3) n6v s6 = some e6 → ∀ (H : Heap) (locs : List Loc) (ls : Array Slot), va_P D vwCl ((ws.set k0 (kIJ d0 (cy 1) n0 s6.2.2))) H → va_D A ((ws.set k0 (kIJ d0 (cy 1) n0 s6.2.2))) → va_S A s.heap H locs → lv_has ls 9 [(0, .ref d0), (1, .int a1), (2, .ref d1), (3, .int a3), (4, .long s6.1), (6, .int s6.2.1)] → (∀ (H : Heap) (locs : List Loc) (ls : Array Slot), va_P D vwCl ((ws.set k0 (kIJ d0 (cy 1) n0 e6))) H → va_D A ((ws.set k0 (kIJ d0 (cy 1) n0 e6))) → va_S A s.heap H locs → lv_has ls 9 [] → W p l e rmX1_mix s m ([.ref d0, .int a1, .ref d1, .int a3] : List Value).toArray below meth c H locs 0 0 (MQ below (kQv D A ((ws.set k0 (kIJ d0 (cy 1) n0 res)))) ([.ref d0, .int a1, .ref d1, .int a3] : List Value).toArray s 0 0 A) (F0 m 58 ls [])) → W p l e rmX1_mix s m ([.ref d0, .int a1, .ref d1, .int a3] : List Value).toArray below meth c H locs 0 0 (MQ below (kQv D A ((ws.set k0 (kIJ d0 (cy 1) n0 res)))) ([.ref d0, .int a1, .ref d1, .int a3] : List Value).toArray s 0 0 A) (F0 m 6 ls []) := by
    intro n6v
    induction n6v with
    | zero => intro s6 e6 h; exact (lpO_z h).elim
    | succ n6v ih6 =>
      intro s6 e6 h6z H locs ls hP hD hS hl K6_0
      obtain ⟨x6, hf, h6z⟩ := lpO_s h6z
      unfold mX1_mix_s6 at hf
      refine lv_iload hx hb dX1_mix_6 (lv_at hl 5 rfl) ?_
      refine lv_aload_n hx hb dX1_mix_8 rfl (lv_at hl 0 rfl) ?_
      refine va_alen (v := (Int32.ofNat n0)) hx hb hE.1 hP k0 1 (k_gset ha0) rfl rfl dX1_mix_9 ?_
      refine lv_icmp_ge (tgt := 58) hx hb dX1_mix_10 (by decide) (fun c10 => ?_) (fun c10 => ?_)
      · have hf := o_ip c10 hf
        obtain rfl := o_ret hf
        obtain rfl := lpK_l h6z
        exact K6_0 _ _ _ hP hD hS (lv_sub hl [] rfl)
      · have hf := o_in c10 hf
        refine lv_aload_n hx hb dX1_mix_13 rfl (lv_at hl 0 rfl) ?_
        refine lv_iload hx hb dX1_mix_14 (lv_at hl 5 rfl) ?_
        obtain ⟨hg16, hf⟩ := gd_s hf
        refine va_lald (f := s6.2.2) hx hb hE.1 hP k0 1 (k_gset ha0) rfl hg16 dX1_mix_16 ?_
        refine lv_iload_n hx hb dX1_mix_17 rfl (lv_at hl 1 rfl) ?_
        refine lv_i2l (v := (a1.toInt64)) hx hb dX1_mix_18 rfl ?_
        refine lv_lmul hx hb dX1_mix_19 ?_
        refine lv_aload_n hx hb dX1_mix_20 rfl (lv_at hl 2 rfl) ?_
        refine lv_iload hx hb dX1_mix_21 (lv_at hl 5 rfl) ?_
        obtain ⟨r23, h23r, hf⟩ := o_bs hf
        refine k_gol (va_runSN (As := [.ref d1, .int s6.2.1]) (rest := [.long ((s6.2.2 (s6.2.1.toNatClampNeg)) * (a1.toInt64))]) ⟨hx, hb, hml, hown, hts⟩ (zX5_at_ l D cy sa ((ws.set k0 (kIJ d0 (cy 1) n0 s6.2.2))) H.size k1 d1 n1 f1 s6.2.1 r23 (k_gother hk01 ha1) h23r) ⟨va_cnB 2 hts (gB_K wB414) rfl rfl rfl (hE.2.1.1 _ (List.mem_of_getElem? (i := 6) rfl)) (hts _ wB2) (by decide +kernel) ⟨Nat.le_of_ble_eq_true rfl, Nat.le_of_ble_eq_true rfl⟩, hts _ wB413, trivial⟩ ⟨kP.blind, k_pre hP hD hS hE hA⟩ rfl rfl hl.1 rfl (lv_room (Nat.le_of_ble_eq_true rfl)) dX1_mix_23 ⟨Nat.zero_le _, Nat.zero_le _⟩) hD hS hA (fun H locs hP hD hS => ?_)
        refine lv_iload_n hx hb dX1_mix_26 rfl (lv_at hl 3 rfl) ?_
        refine lv_i2l (v := (a3.toInt64)) hx hb dX1_mix_27 rfl ?_
        refine lv_lmul hx hb dX1_mix_28 ?_
        refine lv_ladd hx hb dX1_mix_29 ?_
        refine lv_lload hx hb dX1_mix_30 (lv_at hl 4 rfl) ?_
        refine lv_ladd hx hb dX1_mix_32 ?_
        refine lv_lstore (lv' := [(7, .long ((((s6.2.2 (s6.2.1.toNatClampNeg)) * (a1.toInt64)) + (r23 * (a3.toInt64))) + s6.1)), (0, .ref d0), (1, .int a1), (2, .ref d1), (3, .int a3), (4, .long s6.1), (6, .int s6.2.1)]) hx hb dX1_mix_33 hl (by decide) rfl (fun ls hl => ?_)
        refine lv_aload_n hx hb dX1_mix_35 rfl (lv_at hl 1 rfl) ?_
        refine lv_iload hx hb dX1_mix_36 (lv_at hl 6 rfl) ?_
        refine lv_lload hx hb dX1_mix_38 (lv_at hl 0 rfl) ?_
        refine lv_ldc2 (v := 1073741823) hx hb hown (hts _ wB78) dX1_mix_40 ?_
        refine lv_land hx hb dX1_mix_43 ?_
        obtain ⟨hg44, hf⟩ := gd_s hf
        refine va_last (f := s6.2.2) hx hb hE.1 hP hD hS k0 1 (k_gset ha0) rfl hg44 dX1_mix_44 (fun H locs hP hD hS => ?_)
        have hP : va_P D vwCl ((ws.set k0 (kIJ d0 (cy 1) n0 (vp_updL s6.2.2 (s6.2.1.toNatClampNeg) (((((s6.2.2 (s6.2.1.toNatClampNeg)) * (a1.toInt64)) + (r23 * (a3.toInt64))) + s6.1) &&& 1073741823))))) H := by rw [List.set_set] at hP; exact hP
        have hD : va_D A ((ws.set k0 (kIJ d0 (cy 1) n0 (vp_updL s6.2.2 (s6.2.1.toNatClampNeg) (((((s6.2.2 (s6.2.1.toNatClampNeg)) * (a1.toInt64)) + (r23 * (a3.toInt64))) + s6.1) &&& 1073741823))))) := by rw [List.set_set] at hD; exact hD
        refine lv_lload hx hb dX1_mix_45 (lv_at hl 0 rfl) ?_
        refine lv_bipush (v := 30) hx hb dX1_mix_47 (by decide) ?_
        refine lv_lshr (v := (((((s6.2.2 (s6.2.1.toNatClampNeg)) * (a1.toInt64)) + (r23 * (a3.toInt64))) + s6.1) >>> ((30 : Int32).toInt64 &&& 63))) hx hb dX1_mix_49 rfl ?_
        refine lv_lstore (lv' := [(4, .long (((((s6.2.2 (s6.2.1.toNatClampNeg)) * (a1.toInt64)) + (r23 * (a3.toInt64))) + s6.1) >>> ((30 : Int32).toInt64 &&& 63))), (7, .long ((((s6.2.2 (s6.2.1.toNatClampNeg)) * (a1.toInt64)) + (r23 * (a3.toInt64))) + s6.1)), (0, .ref d0), (1, .int a1), (2, .ref d1), (3, .int a3), (6, .int s6.2.1)]) hx hb dX1_mix_50 hl (by decide) rfl (fun ls hl => ?_)
        refine lv_iinc (v := (s6.2.1 + 1)) (lv' := [(6, .int (s6.2.1 + 1)), (4, .long (((((s6.2.2 (s6.2.1.toNatClampNeg)) * (a1.toInt64)) + (r23 * (a3.toInt64))) + s6.1) >>> ((30 : Int32).toInt64 &&& 63))), (7, .long ((((s6.2.2 (s6.2.1.toNatClampNeg)) * (a1.toInt64)) + (r23 * (a3.toInt64))) + s6.1)), (0, .ref d0), (1, .int a1), (2, .ref d1), (3, .int a3)]) hx hb dX1_mix_52 hl (k := 6) rfl (by rfl) (by decide) rfl (fun ls hl => ?_)
        refine lv_goto (tgt := 6) hx hb dX1_mix_55 (by decide) ?_
        obtain rfl := o_ret hf
        exact ih6 _ _ (lpK_r h6z) _ _ _ hP hD hS (lv_sub hl [3, 4, 5, 6, 1, 0] rfl) K6_0
  obtain ⟨e6, h6q, hf⟩ := o_bs hf
  obtain ⟨n6v, h6q⟩ := lpF_ex h6q
  refine L6 n6v _ e6 h6q _ _ _ hP hD hS (lv_sub hl [2, 3, 4, 5, 1, 0] rfl) ?_
  intro H locs ls hP hD hS hl
  obtain rfl := o_ret hf
  exact k_vret hx hb hr hP hD hS (Nat.zero_le _) (Nat.zero_le _) hlocks dX1_mix_58
noncomputable def mX1_write_s2 (n0 : Nat) (c1 : Int64) (s2 : Int32 × ((Nat → Int64))) : Option ((((Nat → Int64))) ⊕ (Int32 × ((Nat → Int64)))) :=
  if (Int32.ofNat n0) ≤ s2.1 then
  (some (.inl s2.2))
  else
  (gd (inb s2.1 n0) (some (.inr ((s2.1 + 1), (vp_updL s2.2 (s2.1.toNatClampNeg) ((c1 >>> ((30 * s2.1).toInt64 &&& 63)) &&& 1073741823))))))
noncomputable def mX1_write (n0 : Nat) (f0 : Nat → Int64) (a1 : Int64) : Option (((Nat → Int64))) :=
  (lpF (mX1_write_s2 n0 a1) (0, f0)).bind fun e2 =>
  some e2
abbrev rmX1_write : Room := { frames := 0, cells := 0, slots := 0, locals := 0 }
set_option maxRecDepth 100000 in
set_option maxHeartbeats 4000000 in
theorem zX1_write (l : Launch) (D : va_G) (cy : Nat → ClassId) (sa : Nat → Nat) (ws : va_W) (sz : Nat) (k0 d0 n0 : Nat) (f0 : Nat → Int64) (a1 : Int64) (res : ((Nat → Int64))) (ha0 : ws[k0]? = some (kIJ d0 (cy 1) n0 f0)) (hf : mX1_write n0 f0 a1 = some res) : kMv l yX1_write (wsK yX1_write cX1_write 4 none) rmX1_write D cy sa (ws) sz [.ref d0, .long a1] ((ws.set k0 (kIJ d0 (cy 1) n0 res))) 0 0 := by
  refine kM_of (Qc := fun A => kQv D A ((ws.set k0 (kIJ d0 (cy 1) n0 res)))) (cc := cX1_write) (maxL := 4) (ret := none) (by decide) (Nat.le_of_ble_eq_true rfl) ?_
  intro p e s m below meth c A hx hb hml hr hts hown hlocks hin hA hP hD hS hE hsz ls hl
  have hown : s.vm.findClass RX1 = some m.cls := hown
  obtain ⟨H, hH0⟩ : ∃ H, H = s.heap := ⟨_, rfl⟩
  obtain ⟨locs, hlocs0⟩ : ∃ locs : List Loc, locs = [] := ⟨_, rfl⟩
  have hP : va_P D vwCl (ws) H := by rw [hH0]; exact hP
  have hS : va_S A s.heap H locs := by rw [hH0, hlocs0]; exact hS
  have hl : lv_has ls 4 [(0, .ref d0), (1, .long a1)] := hl
  suffices hgoal : W p l e rmX1_write s m ([.ref d0, .long a1] : List Value).toArray below meth c H locs 0 0 (MQ below (kQv D A ((ws.set k0 (kIJ d0 (cy 1) n0 res)))) ([.ref d0, .long a1] : List Value).toArray s 0 0 A) (F0 m 0 ls []) by rw [hH0, hlocs0] at hgoal; exact hgoal
  clear hH0 hlocs0
  unfold mX1_write at hf
  refine lv_iconst (v := 0) hx hb dX1_write_0 (by decide) ?_
  refine lv_istore_n (lv' := [(3, .int 0), (0, .ref d0), (1, .long a1)]) hx hb dX1_write_1 rfl hl (by decide) rfl (fun ls hl => ?_)
  have hP : va_P D vwCl ((ws.set k0 (kIJ d0 (cy 1) n0 f0))) H := by rw [k_setself ha0]; exact hP
  have hD : va_D A ((ws.set k0 (kIJ d0 (cy 1) n0 f0))) := by rw [k_setself ha0]; exact hD
  have L2 : ∀ (n2v : Nat) (s2 : Int32 × ((Nat → Int64))) (e2 : ((Nat → Int64))), lpO (mX1_write_s2 n0 a1) n2v s2 = some e2 → ∀ (H : Heap) (locs : List Loc) (ls : Array Slot), va_P D vwCl ((ws.set k0 (kIJ d0 (cy 1) n0 s2.2))) H → va_D A ((ws.set k0 (kIJ d0 (cy 1) n0 s2.2))) → va_S A s.heap H locs → lv_has ls 4 [(0, .ref d0), (1, .long a1), (3, .int s2.1)] → (∀ (H : Heap) (locs : List Loc) (ls : Array Slot), va_P D vwCl ((ws.set k0 (kIJ d0 (cy 1) n0 e2))) H → va_D A ((ws.set k0 (kIJ d0 (cy 1) n0 e2))) → va_S A s.heap H locs → lv_has ls 4 [] → W p l e rmX1_write s m ([.ref d0, .long a1] : List Value).toArray below meth c H locs 0 0 (MQ below (kQv D A ((ws.set k0 (kIJ d0 (cy 1) n0 res)))) ([.ref d0, .long a1] : List Value).toArray s 0 0 A) (F0 m 27 ls [])) → W p l e rmX1_write s m ([.ref d0, .long a1] : List Value).toArray below meth c H locs 0 0 (MQ below (kQv D A ((ws.set k0 (kIJ d0 (cy 1) n0 res)))) ([.ref d0, .long a1] : List Value).toArray s 0 0 A) (F0 m 2 ls []) := by
    intro n2v
    induction n2v with
    | zero => intro s2 e2 h; exact (lpO_z h).elim
    | succ n2v ih2 =>
      intro s2 e2 h2z H locs ls hP hD hS hl K2_0
      obtain ⟨x2, hf, h2z⟩ := lpO_s h2z
      unfold mX1_write_s2 at hf
      refine lv_iload_n hx hb dX1_write_2 rfl (lv_at hl 2 rfl) ?_
      refine lv_aload_n hx hb dX1_write_3 rfl (lv_at hl 0 rfl) ?_
      refine va_alen (v := (Int32.ofNat n0)) hx hb hE.1 hP k0 1 (k_gset ha0) rfl rfl dX1_write_4 ?_
      refine lv_icmp_ge (tgt := 27) hx hb dX1_write_5 (by decide) (fun c5 => ?_) (fun c5 => ?_)
      · have hf := o_ip c5 hf
        obtain rfl := o_ret hf
        obtain rfl := lpK_l h2z
        exact K2_0 _ _ _ hP hD hS (lv_sub hl [] rfl)
      · have hf := o_in c5 hf
        refine lv_aload_n hx hb dX1_write_8 rfl (lv_at hl 0 rfl) ?_
        refine lv_iload_n hx hb dX1_write_9 rfl (lv_at hl 2 rfl) ?_
        refine lv_lload_n hx hb dX1_write_10 rfl (lv_at hl 1 rfl) ?_
        refine lv_bipush (v := 30) hx hb dX1_write_11 (by decide) ?_
        refine lv_iload_n hx hb dX1_write_13 rfl (lv_at hl 2 rfl) ?_
        refine lv_imul hx hb dX1_write_14 ?_
        refine lv_lshr (v := (a1 >>> ((30 * s2.1).toInt64 &&& 63))) hx hb dX1_write_15 rfl ?_
        refine lv_ldc2 (v := 1073741823) hx hb hown (hts _ wB78) dX1_write_16 ?_
        refine lv_land hx hb dX1_write_19 ?_
        obtain ⟨hg20, hf⟩ := gd_s hf
        refine va_last (f := s2.2) hx hb hE.1 hP hD hS k0 1 (k_gset ha0) rfl hg20 dX1_write_20 (fun H locs hP hD hS => ?_)
        have hP : va_P D vwCl ((ws.set k0 (kIJ d0 (cy 1) n0 (vp_updL s2.2 (s2.1.toNatClampNeg) ((a1 >>> ((30 * s2.1).toInt64 &&& 63)) &&& 1073741823))))) H := by rw [List.set_set] at hP; exact hP
        have hD : va_D A ((ws.set k0 (kIJ d0 (cy 1) n0 (vp_updL s2.2 (s2.1.toNatClampNeg) ((a1 >>> ((30 * s2.1).toInt64 &&& 63)) &&& 1073741823))))) := by rw [List.set_set] at hD; exact hD
        refine lv_iinc (v := (s2.1 + 1)) (lv' := [(3, .int (s2.1 + 1)), (0, .ref d0), (1, .long a1)]) hx hb dX1_write_21 hl (k := 2) rfl (by rfl) (by decide) rfl (fun ls hl => ?_)
        refine lv_goto (tgt := 2) hx hb dX1_write_24 (by decide) ?_
        obtain rfl := o_ret hf
        exact ih2 _ _ (lpK_r h2z) _ _ _ hP hD hS (lv_sub hl [1, 2, 0] rfl) K2_0
  obtain ⟨e2, h2q, hf⟩ := o_bs hf
  obtain ⟨n2v, h2q⟩ := lpF_ex h2q
  refine L2 n2v _ e2 h2q _ _ _ hP hD hS (lv_sub hl [1, 2, 0] rfl) ?_
  intro H locs ls hP hD hS hl
  obtain rfl := o_ret hf
  exact k_vret hx hb hr hP hD hS (Nat.zero_le _) (Nat.zero_le _) hlocks dX1_write_27
noncomputable def mX1_mix_s_s6 (n0 : Nat) (c1 : Int32) (c3 : Int32) (s6 : Int64 × Int32 × ((Nat → Int64))) : Option ((((Nat → Int64))) ⊕ (Int64 × Int32 × ((Nat → Int64)))) :=
  if (Int32.ofNat n0) ≤ s6.2.1 then
  (some (.inl s6.2.2))
  else
  (gd (inb s6.2.1 n0) ((mX5_at_ n0 s6.2.2 s6.2.1).bind fun r23 =>
  gd (inb s6.2.1 n0) (some (.inr ((((((s6.2.2 (s6.2.1.toNatClampNeg)) * (c1.toInt64)) + (r23 * (c3.toInt64))) + s6.1) >>> ((30 : Int32).toInt64 &&& 63)), (s6.2.1 + 1), (vp_updL s6.2.2 (s6.2.1.toNatClampNeg) (((((s6.2.2 (s6.2.1.toNatClampNeg)) * (c1.toInt64)) + (r23 * (c3.toInt64))) + s6.1) &&& 1073741823)))))))
noncomputable def mX1_mix_s (n0 : Nat) (f0 : Nat → Int64) (a1 : Int32) (a3 : Int32) : Option (((Nat → Int64))) :=
  (lpF (mX1_mix_s_s6 n0 a1 a3) (0, 0, f0)).bind fun e6 =>
  some e6
abbrev rmX1_mix_s : Room := { frames := 1, cells := 0, slots := 0, locals := 21 }
set_option maxRecDepth 100000 in
set_option maxHeartbeats 4000000 in
theorem zX1_mix_s (l : Launch) (D : va_G) (cy : Nat → ClassId) (sa : Nat → Nat) (ws : va_W) (sz : Nat) (k0 d0 n0 : Nat) (f0 : Nat → Int64) (a1 : Int32) (a3 : Int32) (res : ((Nat → Int64))) (ha0 : ws[k0]? = some (kIJ d0 (cy 1) n0 f0)) (hf : mX1_mix_s n0 f0 a1 a3 = some res) : kMv l yX1_mix (wsK yX1_mix cX1_mix 9 none) rmX1_mix_s D cy sa (ws) sz [.ref d0, .int a1, .ref d0, .int a3] ((ws.set k0 (kIJ d0 (cy 1) n0 res))) 0 0 := by
  refine kM_of (Qc := fun A => kQv D A ((ws.set k0 (kIJ d0 (cy 1) n0 res)))) (cc := cX1_mix) (maxL := 9) (ret := none) (by decide) (Nat.le_of_ble_eq_true rfl) ?_
  intro p e s m below meth c A hx hb hml hr hts hown hlocks hin hA hP hD hS hE hsz ls hl
  have hown : s.vm.findClass RX1 = some m.cls := hown
  obtain ⟨H, hH0⟩ : ∃ H, H = s.heap := ⟨_, rfl⟩
  obtain ⟨locs, hlocs0⟩ : ∃ locs : List Loc, locs = [] := ⟨_, rfl⟩
  have hP : va_P D vwCl (ws) H := by rw [hH0]; exact hP
  have hS : va_S A s.heap H locs := by rw [hH0, hlocs0]; exact hS
  have hl : lv_has ls 9 [(0, .ref d0), (1, .int a1), (2, .ref d0), (3, .int a3)] := hl
  suffices hgoal : W p l e rmX1_mix_s s m ([.ref d0, .int a1, .ref d0, .int a3] : List Value).toArray below meth c H locs 0 0 (MQ below (kQv D A ((ws.set k0 (kIJ d0 (cy 1) n0 res)))) ([.ref d0, .int a1, .ref d0, .int a3] : List Value).toArray s 0 0 A) (F0 m 0 ls []) by rw [hH0, hlocs0] at hgoal; exact hgoal
  clear hH0 hlocs0
  unfold mX1_mix_s at hf
  refine lv_lconst (v := 0) hx hb dX1_mix_0 (by decide) ?_
  refine lv_lstore (lv' := [(4, .long 0), (0, .ref d0), (1, .int a1), (2, .ref d0), (3, .int a3)]) hx hb dX1_mix_1 hl (by decide) rfl (fun ls hl => ?_)
  refine lv_iconst (v := 0) hx hb dX1_mix_3 (by decide) ?_
  refine lv_istore (lv' := [(6, .int 0), (4, .long 0), (0, .ref d0), (1, .int a1), (2, .ref d0), (3, .int a3)]) hx hb dX1_mix_4 hl (by decide) rfl (fun ls hl => ?_)
  have hP : va_P D vwCl ((ws.set k0 (kIJ d0 (cy 1) n0 f0))) H := by rw [k_setself ha0]; exact hP
  have hD : va_D A ((ws.set k0 (kIJ d0 (cy 1) n0 f0))) := by rw [k_setself ha0]; exact hD
  have L6 : ∀ (n6v : Nat) (s6 : Int64 × Int32 × ((Nat → Int64))) (e6 : ((Nat → Int64))), lpO (mX1_mix_s_s6 n0 a1 a3) n6v s6 = some e6 → ∀ (H : Heap) (locs : List Loc) (ls : Array Slot), va_P D vwCl ((ws.set k0 (kIJ d0 (cy 1) n0 s6.2.2))) H → va_D A ((ws.set k0 (kIJ d0 (cy 1) n0 s6.2.2))) → va_S A s.heap H locs → lv_has ls 9 [(0, .ref d0), (1, .int a1), (2, .ref d0), (3, .int a3), (4, .long s6.1), (6, .int s6.2.1)] → (∀ (H : Heap) (locs : List Loc) (ls : Array Slot), va_P D vwCl ((ws.set k0 (kIJ d0 (cy 1) n0 e6))) H → va_D A ((ws.set k0 (kIJ d0 (cy 1) n0 e6))) → va_S A s.heap H locs → lv_has ls 9 [] → W p l e rmX1_mix_s s m ([.ref d0, .int a1, .ref d0, .int a3] : List Value).toArray below meth c H locs 0 0 (MQ below (kQv D A ((ws.set k0 (kIJ d0 (cy 1) n0 res)))) ([.ref d0, .int a1, .ref d0, .int a3] : List Value).toArray s 0 0 A) (F0 m 58 ls [])) → W p l e rmX1_mix_s s m ([.ref d0, .int a1, .ref d0, .int a3] : List Value).toArray below meth c H locs 0 0 (MQ below (kQv D A ((ws.set k0 (kIJ d0 (cy 1) n0 res)))) ([.ref d0, .int a1, .ref d0, .int a3] : List Value).toArray s 0 0 A) (F0 m 6 ls []) := by
    intro n6v
    induction n6v with
    | zero => intro s6 e6 h; exact (lpO_z h).elim
    | succ n6v ih6 =>
      intro s6 e6 h6z H locs ls hP hD hS hl K6_0
      obtain ⟨x6, hf, h6z⟩ := lpO_s h6z
      unfold mX1_mix_s_s6 at hf
      refine lv_iload hx hb dX1_mix_6 (lv_at hl 5 rfl) ?_
      refine lv_aload_n hx hb dX1_mix_8 rfl (lv_at hl 0 rfl) ?_
      refine va_alen (v := (Int32.ofNat n0)) hx hb hE.1 hP k0 1 (k_gset ha0) rfl rfl dX1_mix_9 ?_
      refine lv_icmp_ge (tgt := 58) hx hb dX1_mix_10 (by decide) (fun c10 => ?_) (fun c10 => ?_)
      · have hf := o_ip c10 hf
        obtain rfl := o_ret hf
        obtain rfl := lpK_l h6z
        exact K6_0 _ _ _ hP hD hS (lv_sub hl [] rfl)
      · have hf := o_in c10 hf
        refine lv_aload_n hx hb dX1_mix_13 rfl (lv_at hl 0 rfl) ?_
        refine lv_iload hx hb dX1_mix_14 (lv_at hl 5 rfl) ?_
        obtain ⟨hg16, hf⟩ := gd_s hf
        refine va_lald (f := s6.2.2) hx hb hE.1 hP k0 1 (k_gset ha0) rfl hg16 dX1_mix_16 ?_
        refine lv_iload_n hx hb dX1_mix_17 rfl (lv_at hl 1 rfl) ?_
        refine lv_i2l (v := (a1.toInt64)) hx hb dX1_mix_18 rfl ?_
        refine lv_lmul hx hb dX1_mix_19 ?_
        refine lv_aload_n hx hb dX1_mix_20 rfl (lv_at hl 2 rfl) ?_
        refine lv_iload hx hb dX1_mix_21 (lv_at hl 5 rfl) ?_
        obtain ⟨r23, h23r, hf⟩ := o_bs hf
        refine k_gol (va_runSN (As := [.ref d0, .int s6.2.1]) (rest := [.long ((s6.2.2 (s6.2.1.toNatClampNeg)) * (a1.toInt64))]) ⟨hx, hb, hml, hown, hts⟩ (zX5_at_ l D cy sa ((ws.set k0 (kIJ d0 (cy 1) n0 s6.2.2))) H.size k0 d0 n0 s6.2.2 s6.2.1 r23 (k_gset ha0) h23r) ⟨va_cnB 2 hts (gB_K wB414) rfl rfl rfl (hE.2.1.1 _ (List.mem_of_getElem? (i := 6) rfl)) (hts _ wB2) (by decide +kernel) ⟨Nat.le_of_ble_eq_true rfl, Nat.le_of_ble_eq_true rfl⟩, hts _ wB413, trivial⟩ ⟨kP.blind, k_pre hP hD hS hE hA⟩ rfl rfl hl.1 rfl (lv_room (Nat.le_of_ble_eq_true rfl)) dX1_mix_23 ⟨Nat.zero_le _, Nat.zero_le _⟩) hD hS hA (fun H locs hP hD hS => ?_)
        refine lv_iload_n hx hb dX1_mix_26 rfl (lv_at hl 3 rfl) ?_
        refine lv_i2l (v := (a3.toInt64)) hx hb dX1_mix_27 rfl ?_
        refine lv_lmul hx hb dX1_mix_28 ?_
        refine lv_ladd hx hb dX1_mix_29 ?_
        refine lv_lload hx hb dX1_mix_30 (lv_at hl 4 rfl) ?_
        refine lv_ladd hx hb dX1_mix_32 ?_
        refine lv_lstore (lv' := [(7, .long ((((s6.2.2 (s6.2.1.toNatClampNeg)) * (a1.toInt64)) + (r23 * (a3.toInt64))) + s6.1)), (0, .ref d0), (1, .int a1), (2, .ref d0), (3, .int a3), (4, .long s6.1), (6, .int s6.2.1)]) hx hb dX1_mix_33 hl (by decide) rfl (fun ls hl => ?_)
        refine lv_aload_n hx hb dX1_mix_35 rfl (lv_at hl 1 rfl) ?_
        refine lv_iload hx hb dX1_mix_36 (lv_at hl 6 rfl) ?_
        refine lv_lload hx hb dX1_mix_38 (lv_at hl 0 rfl) ?_
        refine lv_ldc2 (v := 1073741823) hx hb hown (hts _ wB78) dX1_mix_40 ?_
        refine lv_land hx hb dX1_mix_43 ?_
        obtain ⟨hg44, hf⟩ := gd_s hf
        refine va_last (f := s6.2.2) hx hb hE.1 hP hD hS k0 1 (k_gset ha0) rfl hg44 dX1_mix_44 (fun H locs hP hD hS => ?_)
        have hP : va_P D vwCl ((ws.set k0 (kIJ d0 (cy 1) n0 (vp_updL s6.2.2 (s6.2.1.toNatClampNeg) (((((s6.2.2 (s6.2.1.toNatClampNeg)) * (a1.toInt64)) + (r23 * (a3.toInt64))) + s6.1) &&& 1073741823))))) H := by rw [List.set_set] at hP; exact hP
        have hD : va_D A ((ws.set k0 (kIJ d0 (cy 1) n0 (vp_updL s6.2.2 (s6.2.1.toNatClampNeg) (((((s6.2.2 (s6.2.1.toNatClampNeg)) * (a1.toInt64)) + (r23 * (a3.toInt64))) + s6.1) &&& 1073741823))))) := by rw [List.set_set] at hD; exact hD
        refine lv_lload hx hb dX1_mix_45 (lv_at hl 0 rfl) ?_
        refine lv_bipush (v := 30) hx hb dX1_mix_47 (by decide) ?_
        refine lv_lshr (v := (((((s6.2.2 (s6.2.1.toNatClampNeg)) * (a1.toInt64)) + (r23 * (a3.toInt64))) + s6.1) >>> ((30 : Int32).toInt64 &&& 63))) hx hb dX1_mix_49 rfl ?_
        refine lv_lstore (lv' := [(4, .long (((((s6.2.2 (s6.2.1.toNatClampNeg)) * (a1.toInt64)) + (r23 * (a3.toInt64))) + s6.1) >>> ((30 : Int32).toInt64 &&& 63))), (7, .long ((((s6.2.2 (s6.2.1.toNatClampNeg)) * (a1.toInt64)) + (r23 * (a3.toInt64))) + s6.1)), (0, .ref d0), (1, .int a1), (2, .ref d0), (3, .int a3), (6, .int s6.2.1)]) hx hb dX1_mix_50 hl (by decide) rfl (fun ls hl => ?_)
        refine lv_iinc (v := (s6.2.1 + 1)) (lv' := [(6, .int (s6.2.1 + 1)), (4, .long (((((s6.2.2 (s6.2.1.toNatClampNeg)) * (a1.toInt64)) + (r23 * (a3.toInt64))) + s6.1) >>> ((30 : Int32).toInt64 &&& 63))), (7, .long ((((s6.2.2 (s6.2.1.toNatClampNeg)) * (a1.toInt64)) + (r23 * (a3.toInt64))) + s6.1)), (0, .ref d0), (1, .int a1), (2, .ref d0), (3, .int a3)]) hx hb dX1_mix_52 hl (k := 6) rfl (by rfl) (by decide) rfl (fun ls hl => ?_)
        refine lv_goto (tgt := 6) hx hb dX1_mix_55 (by decide) ?_
        obtain rfl := o_ret hf
        exact ih6 _ _ (lpK_r h6z) _ _ _ hP hD hS (lv_sub hl [3, 4, 5, 6, 1, 0] rfl) K6_0
  obtain ⟨e6, h6q, hf⟩ := o_bs hf
  obtain ⟨n6v, h6q⟩ := lpF_ex h6q
  refine L6 n6v _ e6 h6q _ _ _ hP hD hS (lv_sub hl [2, 3, 4, 5, 1, 0] rfl) ?_
  intro H locs ls hP hD hS hl
  obtain rfl := o_ret hf
  exact k_vret hx hb hr hP hD hS (Nat.zero_le _) (Nat.zero_le _) hlocks dX1_mix_58
noncomputable def mX1_setGone_s76 (c2 : Int32) (c3 : Int32) (c4 : Int32) (s76 : Int32 × KS) : Option ((KS) ⊕ (Int32 × KS)) :=
  if c3 ≤ s76.1 then
  (some (.inl s76.2))
  else
  ((mX1_mix 3 (gA s76.2 2) 3 (gA s76.2 6) 20 c2).bind fun r93 =>
  (mX1_mix 3 (gA s76.2 6) 3 (gA s76.2 5) c4 c2).bind fun r107 =>
  (mX1_mix 3 (gA s76.2 5) 3 (gA s76.2 4) c4 c2).bind fun r121 =>
  (mX1_mix_s 3 (gA s76.2 4) c4 0).bind fun r135 =>
  (mX1_mix_s 3 (gA s76.2 3) 20 0).bind fun r149 =>
  some (.inr ((s76.1 + 1), (sA (sA (sA (sA (sA s76.2 2 r93) 3 r149) 4 r135) 5 r121) 6 r107))))
noncomputable def mX1_setGone (u : KS) (a1 : Int32) (a2 : Int32) (a3 : Int32) : Option (KS) :=
  if a1 = 1 then
  ((mX1_write 3 (gA u 4) 1).bind fun r14 =>
  if a1 = 2 then
  ((mX1_write 3 (gA u 5) 1).bind fun r31 =>
  if a1 = 3 then
  ((mX1_write 3 (gA u 6) 1).bind fun r48 =>
  (mX1_write 3 (gA u 2) 0).bind fun r56 =>
  (mX1_write 3 (gA u 3) 1).bind fun r64 =>
  (lpF (mX1_setGone_s76 a2 a3 (20 - a2)) (0, (sA (sA (sA (sA (sA u 2 r56) 3 r64) 4 r14) 5 r31) 6 r48))).bind fun e76 =>
  (mX1_lower e76 2 (2 * a3)).bind fun r163 =>
  (mX1_lower r163 5 a3).bind fun r169 =>
  some r169)
  else
  ((mX1_write 3 (gA u 6) 0).bind fun r48 =>
  (mX1_write 3 (gA u 2) 0).bind fun r56 =>
  (mX1_write 3 (gA u 3) 1).bind fun r64 =>
  (lpF (mX1_setGone_s76 a2 a3 (20 - a2)) (0, (sA (sA (sA (sA (sA u 2 r56) 3 r64) 4 r14) 5 r31) 6 r48))).bind fun e76 =>
  (mX1_lower e76 2 (2 * a3)).bind fun r163 =>
  (mX1_lower r163 5 a3).bind fun r169 =>
  some r169))
  else
  ((mX1_write 3 (gA u 5) 0).bind fun r31 =>
  if a1 = 3 then
  ((mX1_write 3 (gA u 6) 1).bind fun r48 =>
  (mX1_write 3 (gA u 2) 0).bind fun r56 =>
  (mX1_write 3 (gA u 3) 1).bind fun r64 =>
  (lpF (mX1_setGone_s76 a2 a3 (20 - a2)) (0, (sA (sA (sA (sA (sA u 2 r56) 3 r64) 4 r14) 5 r31) 6 r48))).bind fun e76 =>
  (mX1_lower e76 2 (2 * a3)).bind fun r163 =>
  (mX1_lower r163 5 a3).bind fun r169 =>
  some r169)
  else
  ((mX1_write 3 (gA u 6) 0).bind fun r48 =>
  (mX1_write 3 (gA u 2) 0).bind fun r56 =>
  (mX1_write 3 (gA u 3) 1).bind fun r64 =>
  (lpF (mX1_setGone_s76 a2 a3 (20 - a2)) (0, (sA (sA (sA (sA (sA u 2 r56) 3 r64) 4 r14) 5 r31) 6 r48))).bind fun e76 =>
  (mX1_lower e76 2 (2 * a3)).bind fun r163 =>
  (mX1_lower r163 5 a3).bind fun r169 =>
  some r169)))
  else
  ((mX1_write 3 (gA u 4) 0).bind fun r14 =>
  if a1 = 2 then
  ((mX1_write 3 (gA u 5) 1).bind fun r31 =>
  if a1 = 3 then
  ((mX1_write 3 (gA u 6) 1).bind fun r48 =>
  (mX1_write 3 (gA u 2) 0).bind fun r56 =>
  (mX1_write 3 (gA u 3) 1).bind fun r64 =>
  (lpF (mX1_setGone_s76 a2 a3 (20 - a2)) (0, (sA (sA (sA (sA (sA u 2 r56) 3 r64) 4 r14) 5 r31) 6 r48))).bind fun e76 =>
  (mX1_lower e76 2 (2 * a3)).bind fun r163 =>
  (mX1_lower r163 5 a3).bind fun r169 =>
  some r169)
  else
  ((mX1_write 3 (gA u 6) 0).bind fun r48 =>
  (mX1_write 3 (gA u 2) 0).bind fun r56 =>
  (mX1_write 3 (gA u 3) 1).bind fun r64 =>
  (lpF (mX1_setGone_s76 a2 a3 (20 - a2)) (0, (sA (sA (sA (sA (sA u 2 r56) 3 r64) 4 r14) 5 r31) 6 r48))).bind fun e76 =>
  (mX1_lower e76 2 (2 * a3)).bind fun r163 =>
  (mX1_lower r163 5 a3).bind fun r169 =>
  some r169))
  else
  ((mX1_write 3 (gA u 5) 0).bind fun r31 =>
  if a1 = 3 then
  ((mX1_write 3 (gA u 6) 1).bind fun r48 =>
  (mX1_write 3 (gA u 2) 0).bind fun r56 =>
  (mX1_write 3 (gA u 3) 1).bind fun r64 =>
  (lpF (mX1_setGone_s76 a2 a3 (20 - a2)) (0, (sA (sA (sA (sA (sA u 2 r56) 3 r64) 4 r14) 5 r31) 6 r48))).bind fun e76 =>
  (mX1_lower e76 2 (2 * a3)).bind fun r163 =>
  (mX1_lower r163 5 a3).bind fun r169 =>
  some r169)
  else
  ((mX1_write 3 (gA u 6) 0).bind fun r48 =>
  (mX1_write 3 (gA u 2) 0).bind fun r56 =>
  (mX1_write 3 (gA u 3) 1).bind fun r64 =>
  (lpF (mX1_setGone_s76 a2 a3 (20 - a2)) (0, (sA (sA (sA (sA (sA u 2 r56) 3 r64) 4 r14) 5 r31) 6 r48))).bind fun e76 =>
  (mX1_lower e76 2 (2 * a3)).bind fun r163 =>
  (mX1_lower r163 5 a3).bind fun r169 =>
  some r169)))
abbrev rmX1_setGone : Room := { frames := 3, cells := 0, slots := 0, locals := 72 }
set_option maxRecDepth 100000 in
set_option maxHeartbeats 4000000 in
theorem zX1_setGone (l : Launch) (D : va_G) (cy : Nat → ClassId) (sa : Nat → Nat) (q : Nat → Nat) (rest : va_W) (sz : Nat) (u : KS) (a1 : Int32) (a2 : Int32) (a3 : Int32) (res : KS) (hf : mX1_setGone u a1 a2 a3 = some res) : kMv l yX1_setGone (wsK yX1_setGone cX1_setGone 6 none) rmX1_setGone D cy sa (WX q cy u ++ rest) sz [.ref (q 21), .int a1, .int a2, .int a3] (WX q cy res ++ rest) 0 0 := by
  refine kM_of (Qc := fun A => kQv D A (WX q cy res ++ rest)) (cc := cX1_setGone) (maxL := 6) (ret := none) (by decide) (Nat.le_of_ble_eq_true rfl) ?_
  intro p e s m below meth c A hx hb hml hr hts hown hlocks hin hA hP hD hS hE hsz ls hl
  have hown : s.vm.findClass RX1 = some m.cls := hown
  obtain ⟨H, hH0⟩ : ∃ H, H = s.heap := ⟨_, rfl⟩
  obtain ⟨locs, hlocs0⟩ : ∃ locs : List Loc, locs = [] := ⟨_, rfl⟩
  have hP : va_P D vwCl (WX q cy u ++ rest) H := by rw [hH0]; exact hP
  have hS : va_S A s.heap H locs := by rw [hH0, hlocs0]; exact hS
  have hl : lv_has ls 6 [(0, .ref (q 21)), (1, .int a1), (2, .int a2), (3, .int a3)] := hl
  suffices hgoal : W p l e rmX1_setGone s m ([.ref (q 21), .int a1, .int a2, .int a3] : List Value).toArray below meth c H locs 0 0 (MQ below (kQv D A (WX q cy res ++ rest)) ([.ref (q 21), .int a1, .int a2, .int a3] : List Value).toArray s 0 0 A) (F0 m 0 ls []) by rw [hH0, hlocs0] at hgoal; exact hgoal
  clear hH0 hlocs0
  unfold mX1_setGone at hf
  refine lv_aload_n hx hb dX1_setGone_0 rfl (lv_at hl 0 rfl) ?_
  refine va_get (ci := 1) (v := .ref (q 24)) (C := RX1) (T := TX1) (N := 5) hx hb hts inlX1 hown hE.1 hP 21 rfl rfl 2 (by decide) (hts _ wB72) (fun _ h9 => h9) rfl dX1_setGone_1 ?_
  refine lv_iload_n hx hb dX1_setGone_4 rfl (lv_at hl 1 rfl) ?_
  refine lv_iconst (v := 1) hx hb dX1_setGone_5 (by decide) ?_
  refine lv_icmp_ne (tgt := 13) hx hb dX1_setGone_6 (by decide) (fun c6 => ?_) (fun c6 => ?_)
  · have hf := o_in c6 hf
    refine lv_lconst (v := 0) hx hb dX1_setGone_13 (by decide) ?_
    obtain ⟨r14, h14r, hf⟩ := o_bs hf
    refine k_gov (va_runS (As := [.ref (q 24), .long 0]) (rest := []) ⟨hx, hb, hml, hown, hts⟩ (zX1_write l D cy sa (WX q cy u ++ rest) H.size 24 (q 24) 3 (gA u 4) 0 r14 rfl h14r) (va_cwS 2 hts (gB_S wB75 wB76 wB32 wB77) rfl rfl rfl (by decide +kernel) ⟨Nat.le_of_ble_eq_true rfl, Nat.le_of_ble_eq_true rfl⟩) ⟨kP.blind, k_pre hP hD hS hE hA⟩ rfl rfl hl.1 rfl (lv_room (Nat.le_of_ble_eq_true rfl)) dX1_setGone_14 ⟨Nat.zero_le _, Nat.zero_le _⟩) hD hS hA (fun H locs hP hD hS => ?_)
    have hP : va_P D vwCl (WX q cy (sA u 4 r14) ++ rest) H := hP
    have hD : va_D A (WX q cy (sA u 4 r14) ++ rest) := hD
    refine lv_aload_n hx hb dX1_setGone_17 rfl (lv_at hl 0 rfl) ?_
    refine va_get (ci := 1) (v := .ref (q 25)) (C := RX1) (T := TX1) (N := 5) hx hb hts inlX1 hown hE.1 hP 21 rfl rfl 3 (by decide) (hts _ wB73) (fun _ h9 => h9) rfl dX1_setGone_18 ?_
    refine lv_iload_n hx hb dX1_setGone_21 rfl (lv_at hl 1 rfl) ?_
    refine lv_iconst (v := 2) hx hb dX1_setGone_22 (by decide) ?_
    refine lv_icmp_ne (tgt := 30) hx hb dX1_setGone_23 (by decide) (fun c23 => ?_) (fun c23 => ?_)
    · have hf := o_in c23 hf
      refine lv_lconst (v := 0) hx hb dX1_setGone_30 (by decide) ?_
      obtain ⟨r31, h31r, hf⟩ := o_bs hf
      refine k_gov (va_runS (As := [.ref (q 25), .long 0]) (rest := []) ⟨hx, hb, hml, hown, hts⟩ (zX1_write l D cy sa (WX q cy (sA u 4 r14) ++ rest) H.size 25 (q 25) 3 (gA u 5) 0 r31 rfl h31r) (va_cwS 2 hts (gB_S wB75 wB76 wB32 wB77) rfl rfl rfl (by decide +kernel) ⟨Nat.le_of_ble_eq_true rfl, Nat.le_of_ble_eq_true rfl⟩) ⟨kP.blind, k_pre hP hD hS hE hA⟩ rfl rfl hl.1 rfl (lv_room (Nat.le_of_ble_eq_true rfl)) dX1_setGone_31 ⟨Nat.zero_le _, Nat.zero_le _⟩) hD hS hA (fun H locs hP hD hS => ?_)
      have hQ : ∀ (xb : KS) (x0 : (Nat → Int64)) (xn : (Nat → Int64)), (WX q cy (sA xb 4 x0) ++ rest).set 25 (q 25, .inl (cy 1, 3, .inr (.inl xn))) = WX q cy (sA (sA xb 4 x0) 5 xn) ++ rest := fun _ _ _ => rfl
      have hP : va_P D vwCl (WX q cy (sA (sA u 4 r14) 5 r31) ++ rest) H := k_wP (hQ u r14 r31) hP
      have hD : va_D A (WX q cy (sA (sA u 4 r14) 5 r31) ++ rest) := k_wD (hQ u r14 r31) hD
      clear hQ
      refine lv_aload_n hx hb dX1_setGone_34 rfl (lv_at hl 0 rfl) ?_
      refine va_get (ci := 1) (v := .ref (q 26)) (C := RX1) (T := TX1) (N := 5) hx hb hts inlX1 hown hE.1 hP 21 rfl rfl 4 (by decide) (hts _ wB74) (fun _ h9 => h9) rfl dX1_setGone_35 ?_
      refine lv_iload_n hx hb dX1_setGone_38 rfl (lv_at hl 1 rfl) ?_
      refine lv_iconst (v := 3) hx hb dX1_setGone_39 (by decide) ?_
      refine lv_icmp_ne (tgt := 47) hx hb dX1_setGone_40 (by decide) (fun c40 => ?_) (fun c40 => ?_)
      · have hf := o_in c40 hf
        refine lv_lconst (v := 0) hx hb dX1_setGone_47 (by decide) ?_
        obtain ⟨r48, h48r, hf⟩ := o_bs hf
        refine k_gov (va_runS (As := [.ref (q 26), .long 0]) (rest := []) ⟨hx, hb, hml, hown, hts⟩ (zX1_write l D cy sa (WX q cy (sA (sA u 4 r14) 5 r31) ++ rest) H.size 26 (q 26) 3 (gA u 6) 0 r48 rfl h48r) (va_cwS 2 hts (gB_S wB75 wB76 wB32 wB77) rfl rfl rfl (by decide +kernel) ⟨Nat.le_of_ble_eq_true rfl, Nat.le_of_ble_eq_true rfl⟩) ⟨kP.blind, k_pre hP hD hS hE hA⟩ rfl rfl hl.1 rfl (lv_room (Nat.le_of_ble_eq_true rfl)) dX1_setGone_48 ⟨Nat.zero_le _, Nat.zero_le _⟩) hD hS hA (fun H locs hP hD hS => ?_)
        have hQ : ∀ (xb : KS) (x0 : (Nat → Int64)) (x1 : (Nat → Int64)) (xn : (Nat → Int64)), (WX q cy (sA (sA xb 4 x0) 5 x1) ++ rest).set 26 (q 26, .inl (cy 1, 3, .inr (.inl xn))) = WX q cy (sA (sA (sA xb 4 x0) 5 x1) 6 xn) ++ rest := fun _ _ _ _ => rfl
        have hP : va_P D vwCl (WX q cy (sA (sA (sA u 4 r14) 5 r31) 6 r48) ++ rest) H := k_wP (hQ u r14 r31 r48) hP
        have hD : va_D A (WX q cy (sA (sA (sA u 4 r14) 5 r31) 6 r48) ++ rest) := k_wD (hQ u r14 r31 r48) hD
        clear hQ
        refine lv_aload_n hx hb dX1_setGone_51 rfl (lv_at hl 0 rfl) ?_
        refine va_get (ci := 1) (v := .ref (q 22)) (C := RX1) (T := TX1) (N := 5) hx hb hts inlX1 hown hE.1 hP 21 rfl rfl 0 (by decide) (hts _ wB70) (fun _ h9 => h9) rfl dX1_setGone_52 ?_
        refine lv_lconst (v := 0) hx hb dX1_setGone_55 (by decide) ?_
        obtain ⟨r56, h56r, hf⟩ := o_bs hf
        refine k_gov (va_runS (As := [.ref (q 22), .long 0]) (rest := []) ⟨hx, hb, hml, hown, hts⟩ (zX1_write l D cy sa (WX q cy (sA (sA (sA u 4 r14) 5 r31) 6 r48) ++ rest) H.size 22 (q 22) 3 (gA u 2) 0 r56 rfl h56r) (va_cwS 2 hts (gB_S wB75 wB76 wB32 wB77) rfl rfl rfl (by decide +kernel) ⟨Nat.le_of_ble_eq_true rfl, Nat.le_of_ble_eq_true rfl⟩) ⟨kP.blind, k_pre hP hD hS hE hA⟩ rfl rfl hl.1 rfl (lv_room (Nat.le_of_ble_eq_true rfl)) dX1_setGone_56 ⟨Nat.zero_le _, Nat.zero_le _⟩) hD hS hA (fun H locs hP hD hS => ?_)
        have hQ : ∀ (xb : KS) (x0 : (Nat → Int64)) (x1 : (Nat → Int64)) (x2 : (Nat → Int64)) (xn : (Nat → Int64)), (WX q cy (sA (sA (sA xb 4 x0) 5 x1) 6 x2) ++ rest).set 22 (q 22, .inl (cy 1, 3, .inr (.inl xn))) = WX q cy (sA (sA (sA (sA xb 2 xn) 4 x0) 5 x1) 6 x2) ++ rest := fun _ _ _ _ _ => rfl
        have hP : va_P D vwCl (WX q cy (sA (sA (sA (sA u 2 r56) 4 r14) 5 r31) 6 r48) ++ rest) H := k_wP (hQ u r14 r31 r48 r56) hP
        have hD : va_D A (WX q cy (sA (sA (sA (sA u 2 r56) 4 r14) 5 r31) 6 r48) ++ rest) := k_wD (hQ u r14 r31 r48 r56) hD
        clear hQ
        refine lv_aload_n hx hb dX1_setGone_59 rfl (lv_at hl 0 rfl) ?_
        refine va_get (ci := 1) (v := .ref (q 23)) (C := RX1) (T := TX1) (N := 5) hx hb hts inlX1 hown hE.1 hP 21 rfl rfl 1 (by decide) (hts _ wB71) (fun _ h9 => h9) rfl dX1_setGone_60 ?_
        refine lv_lconst (v := 1) hx hb dX1_setGone_63 (by decide) ?_
        obtain ⟨r64, h64r, hf⟩ := o_bs hf
        refine k_gov (va_runS (As := [.ref (q 23), .long 1]) (rest := []) ⟨hx, hb, hml, hown, hts⟩ (zX1_write l D cy sa (WX q cy (sA (sA (sA (sA u 2 r56) 4 r14) 5 r31) 6 r48) ++ rest) H.size 23 (q 23) 3 (gA u 3) 1 r64 rfl h64r) (va_cwS 2 hts (gB_S wB75 wB76 wB32 wB77) rfl rfl rfl (by decide +kernel) ⟨Nat.le_of_ble_eq_true rfl, Nat.le_of_ble_eq_true rfl⟩) ⟨kP.blind, k_pre hP hD hS hE hA⟩ rfl rfl hl.1 rfl (lv_room (Nat.le_of_ble_eq_true rfl)) dX1_setGone_64 ⟨Nat.zero_le _, Nat.zero_le _⟩) hD hS hA (fun H locs hP hD hS => ?_)
        have hQ : ∀ (xb : KS) (x0 : (Nat → Int64)) (x1 : (Nat → Int64)) (x2 : (Nat → Int64)) (x3 : (Nat → Int64)) (xn : (Nat → Int64)), (WX q cy (sA (sA (sA (sA xb 2 x0) 4 x1) 5 x2) 6 x3) ++ rest).set 23 (q 23, .inl (cy 1, 3, .inr (.inl xn))) = WX q cy (sA (sA (sA (sA (sA xb 2 x0) 3 xn) 4 x1) 5 x2) 6 x3) ++ rest := fun _ _ _ _ _ _ => rfl
        have hP : va_P D vwCl (WX q cy (sA (sA (sA (sA (sA u 2 r56) 3 r64) 4 r14) 5 r31) 6 r48) ++ rest) H := k_wP (hQ u r56 r14 r31 r48 r64) hP
        have hD : va_D A (WX q cy (sA (sA (sA (sA (sA u 2 r56) 3 r64) 4 r14) 5 r31) 6 r48) ++ rest) := k_wD (hQ u r56 r14 r31 r48 r64) hD
        clear hQ
        refine lv_bipush (v := 20) hx hb dX1_setGone_67 (by decide) ?_
        refine lv_iload_n hx hb dX1_setGone_69 rfl (lv_at hl 2 rfl) ?_
        refine lv_isub hx hb dX1_setGone_70 ?_
        refine lv_istore (lv' := [(4, .int (20 - a2)), (0, .ref (q 21)), (1, .int a1), (2, .int a2), (3, .int a3)]) hx hb dX1_setGone_71 hl (by decide) rfl (fun ls hl => ?_)
        refine lv_iconst (v := 0) hx hb dX1_setGone_73 (by decide) ?_
        refine lv_istore (lv' := [(5, .int 0), (4, .int (20 - a2)), (0, .ref (q 21)), (1, .int a1), (2, .int a2), (3, .int a3)]) hx hb dX1_setGone_74 hl (by decide) rfl (fun ls hl => ?_)
        have L76 : ∀ (n76v : Nat) (s76 : Int32 × KS) (e76 : KS), lpO (mX1_setGone_s76 a2 a3 (20 - a2)) n76v s76 = some e76 → ∀ (H : Heap) (locs : List Loc) (ls : Array Slot), va_P D vwCl (WX q cy s76.2 ++ rest) H → va_D A (WX q cy s76.2 ++ rest) → va_S A s.heap H locs → lv_has ls 6 [(0, .ref (q 21)), (2, .int a2), (3, .int a3), (4, .int (20 - a2)), (5, .int s76.1)] → (∀ (H : Heap) (locs : List Loc) (ls : Array Slot), va_P D vwCl (WX q cy e76 ++ rest) H → va_D A (WX q cy e76 ++ rest) → va_S A s.heap H locs → lv_has ls 6 [(0, .ref (q 21)), (3, .int a3)] → W p l e rmX1_setGone s m ([.ref (q 21), .int a1, .int a2, .int a3] : List Value).toArray below meth c H locs 0 0 (MQ below (kQv D A (WX q cy res ++ rest)) ([.ref (q 21), .int a1, .int a2, .int a3] : List Value).toArray s 0 0 A) (F0 m 158 ls [])) → W p l e rmX1_setGone s m ([.ref (q 21), .int a1, .int a2, .int a3] : List Value).toArray below meth c H locs 0 0 (MQ below (kQv D A (WX q cy res ++ rest)) ([.ref (q 21), .int a1, .int a2, .int a3] : List Value).toArray s 0 0 A) (F0 m 76 ls []) := by
          intro n76v
          induction n76v with
          | zero => intro s76 e76 h; exact (lpO_z h).elim
          | succ n76v ih76 =>
            intro s76 e76 h76z H locs ls hP hD hS hl K76_0
            obtain ⟨x76, hf, h76z⟩ := lpO_s h76z
            unfold mX1_setGone_s76 at hf
            refine lv_iload hx hb dX1_setGone_76 (lv_at hl 4 rfl) ?_
            refine lv_iload_n hx hb dX1_setGone_78 rfl (lv_at hl 2 rfl) ?_
            refine lv_icmp_ge (tgt := 158) hx hb dX1_setGone_79 (by decide) (fun c79 => ?_) (fun c79 => ?_)
            · have hf := o_ip c79 hf
              obtain rfl := o_ret hf
              obtain rfl := lpK_l h76z
              exact K76_0 _ _ _ hP hD hS (lv_sub hl [0, 2] rfl)
            · have hf := o_in c79 hf
              refine lv_aload_n hx hb dX1_setGone_82 rfl (lv_at hl 0 rfl) ?_
              refine va_get (ci := 1) (v := .ref (q 22)) (C := RX1) (T := TX1) (N := 5) hx hb hts inlX1 hown hE.1 hP 21 rfl rfl 0 (by decide) (hts _ wB70) (fun _ h9 => h9) rfl dX1_setGone_83 ?_
              refine lv_bipush (v := 20) hx hb dX1_setGone_86 (by decide) ?_
              refine lv_aload_n hx hb dX1_setGone_88 rfl (lv_at hl 0 rfl) ?_
              refine va_get (ci := 1) (v := .ref (q 26)) (C := RX1) (T := TX1) (N := 5) hx hb hts inlX1 hown hE.1 hP 21 rfl rfl 4 (by decide) (hts _ wB74) (fun _ h9 => h9) rfl dX1_setGone_89 ?_
              refine lv_iload_n hx hb dX1_setGone_92 rfl (lv_at hl 1 rfl) ?_
              obtain ⟨r93, h93r, hf⟩ := o_bs hf
              refine k_gov (va_runS (As := [.ref (q 22), .int 20, .ref (q 26), .int a2]) (rest := []) ⟨hx, hb, hml, hown, hts⟩ (zX1_mix l D cy sa (WX q cy s76.2 ++ rest) H.size 22 (q 22) 3 (gA s76.2 2) 26 (q 26) 3 (gA s76.2 6) 20 a2 r93 rfl rfl (by decide) h93r) (va_cwS 4 hts (gB_S wB524 wB525 wB32 wB526) rfl rfl rfl (by decide +kernel) ⟨Nat.le_of_ble_eq_true rfl, Nat.le_of_ble_eq_true rfl⟩) ⟨kP.blind, k_pre hP hD hS hE hA⟩ rfl rfl hl.1 rfl (lv_room (Nat.le_of_ble_eq_true rfl)) dX1_setGone_93 ⟨Nat.zero_le _, Nat.zero_le _⟩) hD hS hA (fun H locs hP hD hS => ?_)
              have hP : va_P D vwCl (WX q cy (sA s76.2 2 r93) ++ rest) H := hP
              have hD : va_D A (WX q cy (sA s76.2 2 r93) ++ rest) := hD
              refine lv_aload_n hx hb dX1_setGone_96 rfl (lv_at hl 0 rfl) ?_
              refine va_get (ci := 1) (v := .ref (q 26)) (C := RX1) (T := TX1) (N := 5) hx hb hts inlX1 hown hE.1 hP 21 rfl rfl 4 (by decide) (hts _ wB74) (fun _ h9 => h9) rfl dX1_setGone_97 ?_
              refine lv_iload hx hb dX1_setGone_100 (lv_at hl 3 rfl) ?_
              refine lv_aload_n hx hb dX1_setGone_102 rfl (lv_at hl 0 rfl) ?_
              refine va_get (ci := 1) (v := .ref (q 25)) (C := RX1) (T := TX1) (N := 5) hx hb hts inlX1 hown hE.1 hP 21 rfl rfl 3 (by decide) (hts _ wB73) (fun _ h9 => h9) rfl dX1_setGone_103 ?_
              refine lv_iload_n hx hb dX1_setGone_106 rfl (lv_at hl 1 rfl) ?_
              obtain ⟨r107, h107r, hf⟩ := o_bs hf
              refine k_gov (va_runS (As := [.ref (q 26), .int (20 - a2), .ref (q 25), .int a2]) (rest := []) ⟨hx, hb, hml, hown, hts⟩ (zX1_mix l D cy sa (WX q cy (sA s76.2 2 r93) ++ rest) H.size 26 (q 26) 3 (gA s76.2 6) 25 (q 25) 3 (gA s76.2 5) (20 - a2) a2 r107 rfl rfl (by decide) h107r) (va_cwS 4 hts (gB_S wB524 wB525 wB32 wB526) rfl rfl rfl (by decide +kernel) ⟨Nat.le_of_ble_eq_true rfl, Nat.le_of_ble_eq_true rfl⟩) ⟨kP.blind, k_pre hP hD hS hE hA⟩ rfl rfl hl.1 rfl (lv_room (Nat.le_of_ble_eq_true rfl)) dX1_setGone_107 ⟨Nat.zero_le _, Nat.zero_le _⟩) hD hS hA (fun H locs hP hD hS => ?_)
              have hQ : ∀ (xb : KS) (x0 : (Nat → Int64)) (xn : (Nat → Int64)), (WX q cy (sA xb 2 x0) ++ rest).set 26 (q 26, .inl (cy 1, 3, .inr (.inl xn))) = WX q cy (sA (sA xb 2 x0) 6 xn) ++ rest := fun _ _ _ => rfl
              have hP : va_P D vwCl (WX q cy (sA (sA s76.2 2 r93) 6 r107) ++ rest) H := k_wP (hQ s76.2 r93 r107) hP
              have hD : va_D A (WX q cy (sA (sA s76.2 2 r93) 6 r107) ++ rest) := k_wD (hQ s76.2 r93 r107) hD
              clear hQ
              refine lv_aload_n hx hb dX1_setGone_110 rfl (lv_at hl 0 rfl) ?_
              refine va_get (ci := 1) (v := .ref (q 25)) (C := RX1) (T := TX1) (N := 5) hx hb hts inlX1 hown hE.1 hP 21 rfl rfl 3 (by decide) (hts _ wB73) (fun _ h9 => h9) rfl dX1_setGone_111 ?_
              refine lv_iload hx hb dX1_setGone_114 (lv_at hl 3 rfl) ?_
              refine lv_aload_n hx hb dX1_setGone_116 rfl (lv_at hl 0 rfl) ?_
              refine va_get (ci := 1) (v := .ref (q 24)) (C := RX1) (T := TX1) (N := 5) hx hb hts inlX1 hown hE.1 hP 21 rfl rfl 2 (by decide) (hts _ wB72) (fun _ h9 => h9) rfl dX1_setGone_117 ?_
              refine lv_iload_n hx hb dX1_setGone_120 rfl (lv_at hl 1 rfl) ?_
              obtain ⟨r121, h121r, hf⟩ := o_bs hf
              refine k_gov (va_runS (As := [.ref (q 25), .int (20 - a2), .ref (q 24), .int a2]) (rest := []) ⟨hx, hb, hml, hown, hts⟩ (zX1_mix l D cy sa (WX q cy (sA (sA s76.2 2 r93) 6 r107) ++ rest) H.size 25 (q 25) 3 (gA s76.2 5) 24 (q 24) 3 (gA s76.2 4) (20 - a2) a2 r121 rfl rfl (by decide) h121r) (va_cwS 4 hts (gB_S wB524 wB525 wB32 wB526) rfl rfl rfl (by decide +kernel) ⟨Nat.le_of_ble_eq_true rfl, Nat.le_of_ble_eq_true rfl⟩) ⟨kP.blind, k_pre hP hD hS hE hA⟩ rfl rfl hl.1 rfl (lv_room (Nat.le_of_ble_eq_true rfl)) dX1_setGone_121 ⟨Nat.zero_le _, Nat.zero_le _⟩) hD hS hA (fun H locs hP hD hS => ?_)
              have hQ : ∀ (xb : KS) (x0 : (Nat → Int64)) (x1 : (Nat → Int64)) (xn : (Nat → Int64)), (WX q cy (sA (sA xb 2 x0) 6 x1) ++ rest).set 25 (q 25, .inl (cy 1, 3, .inr (.inl xn))) = WX q cy (sA (sA (sA xb 2 x0) 5 xn) 6 x1) ++ rest := fun _ _ _ _ => rfl
              have hP : va_P D vwCl (WX q cy (sA (sA (sA s76.2 2 r93) 5 r121) 6 r107) ++ rest) H := k_wP (hQ s76.2 r93 r107 r121) hP
              have hD : va_D A (WX q cy (sA (sA (sA s76.2 2 r93) 5 r121) 6 r107) ++ rest) := k_wD (hQ s76.2 r93 r107 r121) hD
              clear hQ
              refine lv_aload_n hx hb dX1_setGone_124 rfl (lv_at hl 0 rfl) ?_
              refine va_get (ci := 1) (v := .ref (q 24)) (C := RX1) (T := TX1) (N := 5) hx hb hts inlX1 hown hE.1 hP 21 rfl rfl 2 (by decide) (hts _ wB72) (fun _ h9 => h9) rfl dX1_setGone_125 ?_
              refine lv_iload hx hb dX1_setGone_128 (lv_at hl 3 rfl) ?_
              refine lv_aload_n hx hb dX1_setGone_130 rfl (lv_at hl 0 rfl) ?_
              refine va_get (ci := 1) (v := .ref (q 24)) (C := RX1) (T := TX1) (N := 5) hx hb hts inlX1 hown hE.1 hP 21 rfl rfl 2 (by decide) (hts _ wB72) (fun _ h9 => h9) rfl dX1_setGone_131 ?_
              refine lv_iconst (v := 0) hx hb dX1_setGone_134 (by decide) ?_
              obtain ⟨r135, h135r, hf⟩ := o_bs hf
              refine k_gov (va_runS (As := [.ref (q 24), .int (20 - a2), .ref (q 24), .int 0]) (rest := []) ⟨hx, hb, hml, hown, hts⟩ (zX1_mix_s l D cy sa (WX q cy (sA (sA (sA s76.2 2 r93) 5 r121) 6 r107) ++ rest) H.size 24 (q 24) 3 (gA s76.2 4) (20 - a2) 0 r135 rfl h135r) (va_cwS 4 hts (gB_S wB524 wB525 wB32 wB526) rfl rfl rfl (by decide +kernel) ⟨Nat.le_of_ble_eq_true rfl, Nat.le_of_ble_eq_true rfl⟩) ⟨kP.blind, k_pre hP hD hS hE hA⟩ rfl rfl hl.1 rfl (lv_room (Nat.le_of_ble_eq_true rfl)) dX1_setGone_135 ⟨Nat.zero_le _, Nat.zero_le _⟩) hD hS hA (fun H locs hP hD hS => ?_)
              have hQ : ∀ (xb : KS) (x0 : (Nat → Int64)) (x1 : (Nat → Int64)) (x2 : (Nat → Int64)) (xn : (Nat → Int64)), (WX q cy (sA (sA (sA xb 2 x0) 5 x1) 6 x2) ++ rest).set 24 (q 24, .inl (cy 1, 3, .inr (.inl xn))) = WX q cy (sA (sA (sA (sA xb 2 x0) 4 xn) 5 x1) 6 x2) ++ rest := fun _ _ _ _ _ => rfl
              have hP : va_P D vwCl (WX q cy (sA (sA (sA (sA s76.2 2 r93) 4 r135) 5 r121) 6 r107) ++ rest) H := k_wP (hQ s76.2 r93 r121 r107 r135) hP
              have hD : va_D A (WX q cy (sA (sA (sA (sA s76.2 2 r93) 4 r135) 5 r121) 6 r107) ++ rest) := k_wD (hQ s76.2 r93 r121 r107 r135) hD
              clear hQ
              refine lv_aload_n hx hb dX1_setGone_138 rfl (lv_at hl 0 rfl) ?_
              refine va_get (ci := 1) (v := .ref (q 23)) (C := RX1) (T := TX1) (N := 5) hx hb hts inlX1 hown hE.1 hP 21 rfl rfl 1 (by decide) (hts _ wB71) (fun _ h9 => h9) rfl dX1_setGone_139 ?_
              refine lv_bipush (v := 20) hx hb dX1_setGone_142 (by decide) ?_
              refine lv_aload_n hx hb dX1_setGone_144 rfl (lv_at hl 0 rfl) ?_
              refine va_get (ci := 1) (v := .ref (q 23)) (C := RX1) (T := TX1) (N := 5) hx hb hts inlX1 hown hE.1 hP 21 rfl rfl 1 (by decide) (hts _ wB71) (fun _ h9 => h9) rfl dX1_setGone_145 ?_
              refine lv_iconst (v := 0) hx hb dX1_setGone_148 (by decide) ?_
              obtain ⟨r149, h149r, hf⟩ := o_bs hf
              refine k_gov (va_runS (As := [.ref (q 23), .int 20, .ref (q 23), .int 0]) (rest := []) ⟨hx, hb, hml, hown, hts⟩ (zX1_mix_s l D cy sa (WX q cy (sA (sA (sA (sA s76.2 2 r93) 4 r135) 5 r121) 6 r107) ++ rest) H.size 23 (q 23) 3 (gA s76.2 3) 20 0 r149 rfl h149r) (va_cwS 4 hts (gB_S wB524 wB525 wB32 wB526) rfl rfl rfl (by decide +kernel) ⟨Nat.le_of_ble_eq_true rfl, Nat.le_of_ble_eq_true rfl⟩) ⟨kP.blind, k_pre hP hD hS hE hA⟩ rfl rfl hl.1 rfl (lv_room (Nat.le_of_ble_eq_true rfl)) dX1_setGone_149 ⟨Nat.zero_le _, Nat.zero_le _⟩) hD hS hA (fun H locs hP hD hS => ?_)
              have hQ : ∀ (xb : KS) (x0 : (Nat → Int64)) (x1 : (Nat → Int64)) (x2 : (Nat → Int64)) (x3 : (Nat → Int64)) (xn : (Nat → Int64)), (WX q cy (sA (sA (sA (sA xb 2 x0) 4 x1) 5 x2) 6 x3) ++ rest).set 23 (q 23, .inl (cy 1, 3, .inr (.inl xn))) = WX q cy (sA (sA (sA (sA (sA xb 2 x0) 3 xn) 4 x1) 5 x2) 6 x3) ++ rest := fun _ _ _ _ _ _ => rfl
              have hP : va_P D vwCl (WX q cy (sA (sA (sA (sA (sA s76.2 2 r93) 3 r149) 4 r135) 5 r121) 6 r107) ++ rest) H := k_wP (hQ s76.2 r93 r135 r121 r107 r149) hP
              have hD : va_D A (WX q cy (sA (sA (sA (sA (sA s76.2 2 r93) 3 r149) 4 r135) 5 r121) 6 r107) ++ rest) := k_wD (hQ s76.2 r93 r135 r121 r107 r149) hD
              clear hQ
              refine lv_iinc (v := (s76.1 + 1)) (lv' := [(5, .int (s76.1 + 1)), (0, .ref (q 21)), (2, .int a2), (3, .int a3), (4, .int (20 - a2))]) hx hb dX1_setGone_152 hl (k := 4) rfl (by rfl) (by decide) rfl (fun ls hl => ?_)
              refine lv_goto (tgt := 76) hx hb dX1_setGone_155 (by decide) ?_
              obtain rfl := o_ret hf
              exact ih76 _ _ (lpK_r h76z) _ _ _ hP hD hS (lv_sub hl [1, 2, 3, 4, 0] rfl) K76_0
        obtain ⟨e76, h76q, hf⟩ := o_bs hf
        obtain ⟨n76v, h76q⟩ := lpF_ex h76q
        refine L76 n76v _ e76 h76q _ _ _ hP hD hS (lv_sub hl [2, 4, 5, 1, 0] rfl) ?_
        intro H locs ls hP hD hS hl
        refine lv_aload_n hx hb dX1_setGone_158 rfl (lv_at hl 0 rfl) ?_
        refine lv_iconst (v := 2) hx hb dX1_setGone_159 (by decide) ?_
        refine lv_iconst (v := 2) hx hb dX1_setGone_160 (by decide) ?_
        refine lv_iload_n hx hb dX1_setGone_161 rfl (lv_at hl 1 rfl) ?_
        refine lv_imul hx hb dX1_setGone_162 ?_
        obtain ⟨r163, h163r, hf⟩ := o_bs hf
        refine k_gov (va_runV (As := [.int 2, .int (2 * a3)]) (rest := []) ⟨hx, hb, hml, hown, hts⟩ (zX1_lower l D cy sa q rest H.size e76 2 (2 * a3) r163 h163r) (cwV 2 hts (gB_V wB527 wB528 wB529 wB32 wB530) rfl rfl rfl (by decide +kernel) ⟨Nat.le_of_ble_eq_true rfl, Nat.le_of_ble_eq_true rfl⟩) ⟨kP.blind, k_recv hE hP (ci := 1) (q0 := 21) rfl rfl, k_pre hP hD hS hE hA⟩ rfl rfl hl.1 rfl (lv_room (Nat.le_of_ble_eq_true rfl)) dX1_setGone_163 ⟨Nat.zero_le _, Nat.zero_le _⟩) hD hS hA (fun H locs hP hD hS => ?_)
        refine lv_aload_n hx hb dX1_setGone_166 rfl (lv_at hl 0 rfl) ?_
        refine lv_iconst (v := 5) hx hb dX1_setGone_167 (by decide) ?_
        refine lv_iload_n hx hb dX1_setGone_168 rfl (lv_at hl 1 rfl) ?_
        obtain ⟨r169, h169r, hf⟩ := o_bs hf
        refine k_gov (va_runV (As := [.int 5, .int a3]) (rest := []) ⟨hx, hb, hml, hown, hts⟩ (zX1_lower l D cy sa q rest H.size r163 5 a3 r169 h169r) (cwV 2 hts (gB_V wB527 wB528 wB529 wB32 wB530) rfl rfl rfl (by decide +kernel) ⟨Nat.le_of_ble_eq_true rfl, Nat.le_of_ble_eq_true rfl⟩) ⟨kP.blind, k_recv hE hP (ci := 1) (q0 := 21) rfl rfl, k_pre hP hD hS hE hA⟩ rfl rfl hl.1 rfl (lv_room (Nat.le_of_ble_eq_true rfl)) dX1_setGone_169 ⟨Nat.zero_le _, Nat.zero_le _⟩) hD hS hA (fun H locs hP hD hS => ?_)
        obtain rfl := o_ret hf
        exact k_vret hx hb hr hP hD hS (Nat.zero_le _) (Nat.zero_le _) hlocks dX1_setGone_172
      · have hf := o_ip c40 hf
        refine lv_lconst (v := 1) hx hb dX1_setGone_43 (by decide) ?_
        refine lv_goto (tgt := 48) hx hb dX1_setGone_44 (by decide) ?_
        obtain ⟨r48, h48r, hf⟩ := o_bs hf
        refine k_gov (va_runS (As := [.ref (q 26), .long 1]) (rest := []) ⟨hx, hb, hml, hown, hts⟩ (zX1_write l D cy sa (WX q cy (sA (sA u 4 r14) 5 r31) ++ rest) H.size 26 (q 26) 3 (gA u 6) 1 r48 rfl h48r) (va_cwS 2 hts (gB_S wB75 wB76 wB32 wB77) rfl rfl rfl (by decide +kernel) ⟨Nat.le_of_ble_eq_true rfl, Nat.le_of_ble_eq_true rfl⟩) ⟨kP.blind, k_pre hP hD hS hE hA⟩ rfl rfl hl.1 rfl (lv_room (Nat.le_of_ble_eq_true rfl)) dX1_setGone_48 ⟨Nat.zero_le _, Nat.zero_le _⟩) hD hS hA (fun H locs hP hD hS => ?_)
        have hQ : ∀ (xb : KS) (x0 : (Nat → Int64)) (x1 : (Nat → Int64)) (xn : (Nat → Int64)), (WX q cy (sA (sA xb 4 x0) 5 x1) ++ rest).set 26 (q 26, .inl (cy 1, 3, .inr (.inl xn))) = WX q cy (sA (sA (sA xb 4 x0) 5 x1) 6 xn) ++ rest := fun _ _ _ _ => rfl
        have hP : va_P D vwCl (WX q cy (sA (sA (sA u 4 r14) 5 r31) 6 r48) ++ rest) H := k_wP (hQ u r14 r31 r48) hP
        have hD : va_D A (WX q cy (sA (sA (sA u 4 r14) 5 r31) 6 r48) ++ rest) := k_wD (hQ u r14 r31 r48) hD
        clear hQ
        refine lv_aload_n hx hb dX1_setGone_51 rfl (lv_at hl 0 rfl) ?_
        refine va_get (ci := 1) (v := .ref (q 22)) (C := RX1) (T := TX1) (N := 5) hx hb hts inlX1 hown hE.1 hP 21 rfl rfl 0 (by decide) (hts _ wB70) (fun _ h9 => h9) rfl dX1_setGone_52 ?_
        refine lv_lconst (v := 0) hx hb dX1_setGone_55 (by decide) ?_
        obtain ⟨r56, h56r, hf⟩ := o_bs hf
        refine k_gov (va_runS (As := [.ref (q 22), .long 0]) (rest := []) ⟨hx, hb, hml, hown, hts⟩ (zX1_write l D cy sa (WX q cy (sA (sA (sA u 4 r14) 5 r31) 6 r48) ++ rest) H.size 22 (q 22) 3 (gA u 2) 0 r56 rfl h56r) (va_cwS 2 hts (gB_S wB75 wB76 wB32 wB77) rfl rfl rfl (by decide +kernel) ⟨Nat.le_of_ble_eq_true rfl, Nat.le_of_ble_eq_true rfl⟩) ⟨kP.blind, k_pre hP hD hS hE hA⟩ rfl rfl hl.1 rfl (lv_room (Nat.le_of_ble_eq_true rfl)) dX1_setGone_56 ⟨Nat.zero_le _, Nat.zero_le _⟩) hD hS hA (fun H locs hP hD hS => ?_)
        have hQ : ∀ (xb : KS) (x0 : (Nat → Int64)) (x1 : (Nat → Int64)) (x2 : (Nat → Int64)) (xn : (Nat → Int64)), (WX q cy (sA (sA (sA xb 4 x0) 5 x1) 6 x2) ++ rest).set 22 (q 22, .inl (cy 1, 3, .inr (.inl xn))) = WX q cy (sA (sA (sA (sA xb 2 xn) 4 x0) 5 x1) 6 x2) ++ rest := fun _ _ _ _ _ => rfl
        have hP : va_P D vwCl (WX q cy (sA (sA (sA (sA u 2 r56) 4 r14) 5 r31) 6 r48) ++ rest) H := k_wP (hQ u r14 r31 r48 r56) hP
        have hD : va_D A (WX q cy (sA (sA (sA (sA u 2 r56) 4 r14) 5 r31) 6 r48) ++ rest) := k_wD (hQ u r14 r31 r48 r56) hD
        clear hQ
        refine lv_aload_n hx hb dX1_setGone_59 rfl (lv_at hl 0 rfl) ?_
        refine va_get (ci := 1) (v := .ref (q 23)) (C := RX1) (T := TX1) (N := 5) hx hb hts inlX1 hown hE.1 hP 21 rfl rfl 1 (by decide) (hts _ wB71) (fun _ h9 => h9) rfl dX1_setGone_60 ?_
        refine lv_lconst (v := 1) hx hb dX1_setGone_63 (by decide) ?_
        obtain ⟨r64, h64r, hf⟩ := o_bs hf
        refine k_gov (va_runS (As := [.ref (q 23), .long 1]) (rest := []) ⟨hx, hb, hml, hown, hts⟩ (zX1_write l D cy sa (WX q cy (sA (sA (sA (sA u 2 r56) 4 r14) 5 r31) 6 r48) ++ rest) H.size 23 (q 23) 3 (gA u 3) 1 r64 rfl h64r) (va_cwS 2 hts (gB_S wB75 wB76 wB32 wB77) rfl rfl rfl (by decide +kernel) ⟨Nat.le_of_ble_eq_true rfl, Nat.le_of_ble_eq_true rfl⟩) ⟨kP.blind, k_pre hP hD hS hE hA⟩ rfl rfl hl.1 rfl (lv_room (Nat.le_of_ble_eq_true rfl)) dX1_setGone_64 ⟨Nat.zero_le _, Nat.zero_le _⟩) hD hS hA (fun H locs hP hD hS => ?_)
        have hQ : ∀ (xb : KS) (x0 : (Nat → Int64)) (x1 : (Nat → Int64)) (x2 : (Nat → Int64)) (x3 : (Nat → Int64)) (xn : (Nat → Int64)), (WX q cy (sA (sA (sA (sA xb 2 x0) 4 x1) 5 x2) 6 x3) ++ rest).set 23 (q 23, .inl (cy 1, 3, .inr (.inl xn))) = WX q cy (sA (sA (sA (sA (sA xb 2 x0) 3 xn) 4 x1) 5 x2) 6 x3) ++ rest := fun _ _ _ _ _ _ => rfl
        have hP : va_P D vwCl (WX q cy (sA (sA (sA (sA (sA u 2 r56) 3 r64) 4 r14) 5 r31) 6 r48) ++ rest) H := k_wP (hQ u r56 r14 r31 r48 r64) hP
        have hD : va_D A (WX q cy (sA (sA (sA (sA (sA u 2 r56) 3 r64) 4 r14) 5 r31) 6 r48) ++ rest) := k_wD (hQ u r56 r14 r31 r48 r64) hD
        clear hQ
        refine lv_bipush (v := 20) hx hb dX1_setGone_67 (by decide) ?_
        refine lv_iload_n hx hb dX1_setGone_69 rfl (lv_at hl 2 rfl) ?_
        refine lv_isub hx hb dX1_setGone_70 ?_
        refine lv_istore (lv' := [(4, .int (20 - a2)), (0, .ref (q 21)), (1, .int a1), (2, .int a2), (3, .int a3)]) hx hb dX1_setGone_71 hl (by decide) rfl (fun ls hl => ?_)
        refine lv_iconst (v := 0) hx hb dX1_setGone_73 (by decide) ?_
        refine lv_istore (lv' := [(5, .int 0), (4, .int (20 - a2)), (0, .ref (q 21)), (1, .int a1), (2, .int a2), (3, .int a3)]) hx hb dX1_setGone_74 hl (by decide) rfl (fun ls hl => ?_)
        have L76 : ∀ (n76v : Nat) (s76 : Int32 × KS) (e76 : KS), lpO (mX1_setGone_s76 a2 a3 (20 - a2)) n76v s76 = some e76 → ∀ (H : Heap) (locs : List Loc) (ls : Array Slot), va_P D vwCl (WX q cy s76.2 ++ rest) H → va_D A (WX q cy s76.2 ++ rest) → va_S A s.heap H locs → lv_has ls 6 [(0, .ref (q 21)), (2, .int a2), (3, .int a3), (4, .int (20 - a2)), (5, .int s76.1)] → (∀ (H : Heap) (locs : List Loc) (ls : Array Slot), va_P D vwCl (WX q cy e76 ++ rest) H → va_D A (WX q cy e76 ++ rest) → va_S A s.heap H locs → lv_has ls 6 [(0, .ref (q 21)), (3, .int a3)] → W p l e rmX1_setGone s m ([.ref (q 21), .int a1, .int a2, .int a3] : List Value).toArray below meth c H locs 0 0 (MQ below (kQv D A (WX q cy res ++ rest)) ([.ref (q 21), .int a1, .int a2, .int a3] : List Value).toArray s 0 0 A) (F0 m 158 ls [])) → W p l e rmX1_setGone s m ([.ref (q 21), .int a1, .int a2, .int a3] : List Value).toArray below meth c H locs 0 0 (MQ below (kQv D A (WX q cy res ++ rest)) ([.ref (q 21), .int a1, .int a2, .int a3] : List Value).toArray s 0 0 A) (F0 m 76 ls []) := by
          intro n76v
          induction n76v with
          | zero => intro s76 e76 h; exact (lpO_z h).elim
          | succ n76v ih76 =>
            intro s76 e76 h76z H locs ls hP hD hS hl K76_0
            obtain ⟨x76, hf, h76z⟩ := lpO_s h76z
            unfold mX1_setGone_s76 at hf
            refine lv_iload hx hb dX1_setGone_76 (lv_at hl 4 rfl) ?_
            refine lv_iload_n hx hb dX1_setGone_78 rfl (lv_at hl 2 rfl) ?_
            refine lv_icmp_ge (tgt := 158) hx hb dX1_setGone_79 (by decide) (fun c79 => ?_) (fun c79 => ?_)
            · have hf := o_ip c79 hf
              obtain rfl := o_ret hf
              obtain rfl := lpK_l h76z
              exact K76_0 _ _ _ hP hD hS (lv_sub hl [0, 2] rfl)
            · have hf := o_in c79 hf
              refine lv_aload_n hx hb dX1_setGone_82 rfl (lv_at hl 0 rfl) ?_
              refine va_get (ci := 1) (v := .ref (q 22)) (C := RX1) (T := TX1) (N := 5) hx hb hts inlX1 hown hE.1 hP 21 rfl rfl 0 (by decide) (hts _ wB70) (fun _ h9 => h9) rfl dX1_setGone_83 ?_
              refine lv_bipush (v := 20) hx hb dX1_setGone_86 (by decide) ?_
              refine lv_aload_n hx hb dX1_setGone_88 rfl (lv_at hl 0 rfl) ?_
              refine va_get (ci := 1) (v := .ref (q 26)) (C := RX1) (T := TX1) (N := 5) hx hb hts inlX1 hown hE.1 hP 21 rfl rfl 4 (by decide) (hts _ wB74) (fun _ h9 => h9) rfl dX1_setGone_89 ?_
              refine lv_iload_n hx hb dX1_setGone_92 rfl (lv_at hl 1 rfl) ?_
              obtain ⟨r93, h93r, hf⟩ := o_bs hf
              refine k_gov (va_runS (As := [.ref (q 22), .int 20, .ref (q 26), .int a2]) (rest := []) ⟨hx, hb, hml, hown, hts⟩ (zX1_mix l D cy sa (WX q cy s76.2 ++ rest) H.size 22 (q 22) 3 (gA s76.2 2) 26 (q 26) 3 (gA s76.2 6) 20 a2 r93 rfl rfl (by decide) h93r) (va_cwS 4 hts (gB_S wB524 wB525 wB32 wB526) rfl rfl rfl (by decide +kernel) ⟨Nat.le_of_ble_eq_true rfl, Nat.le_of_ble_eq_true rfl⟩) ⟨kP.blind, k_pre hP hD hS hE hA⟩ rfl rfl hl.1 rfl (lv_room (Nat.le_of_ble_eq_true rfl)) dX1_setGone_93 ⟨Nat.zero_le _, Nat.zero_le _⟩) hD hS hA (fun H locs hP hD hS => ?_)
              have hP : va_P D vwCl (WX q cy (sA s76.2 2 r93) ++ rest) H := hP
              have hD : va_D A (WX q cy (sA s76.2 2 r93) ++ rest) := hD
              refine lv_aload_n hx hb dX1_setGone_96 rfl (lv_at hl 0 rfl) ?_
              refine va_get (ci := 1) (v := .ref (q 26)) (C := RX1) (T := TX1) (N := 5) hx hb hts inlX1 hown hE.1 hP 21 rfl rfl 4 (by decide) (hts _ wB74) (fun _ h9 => h9) rfl dX1_setGone_97 ?_
              refine lv_iload hx hb dX1_setGone_100 (lv_at hl 3 rfl) ?_
              refine lv_aload_n hx hb dX1_setGone_102 rfl (lv_at hl 0 rfl) ?_
              refine va_get (ci := 1) (v := .ref (q 25)) (C := RX1) (T := TX1) (N := 5) hx hb hts inlX1 hown hE.1 hP 21 rfl rfl 3 (by decide) (hts _ wB73) (fun _ h9 => h9) rfl dX1_setGone_103 ?_
              refine lv_iload_n hx hb dX1_setGone_106 rfl (lv_at hl 1 rfl) ?_
              obtain ⟨r107, h107r, hf⟩ := o_bs hf
              refine k_gov (va_runS (As := [.ref (q 26), .int (20 - a2), .ref (q 25), .int a2]) (rest := []) ⟨hx, hb, hml, hown, hts⟩ (zX1_mix l D cy sa (WX q cy (sA s76.2 2 r93) ++ rest) H.size 26 (q 26) 3 (gA s76.2 6) 25 (q 25) 3 (gA s76.2 5) (20 - a2) a2 r107 rfl rfl (by decide) h107r) (va_cwS 4 hts (gB_S wB524 wB525 wB32 wB526) rfl rfl rfl (by decide +kernel) ⟨Nat.le_of_ble_eq_true rfl, Nat.le_of_ble_eq_true rfl⟩) ⟨kP.blind, k_pre hP hD hS hE hA⟩ rfl rfl hl.1 rfl (lv_room (Nat.le_of_ble_eq_true rfl)) dX1_setGone_107 ⟨Nat.zero_le _, Nat.zero_le _⟩) hD hS hA (fun H locs hP hD hS => ?_)
              have hQ : ∀ (xb : KS) (x0 : (Nat → Int64)) (xn : (Nat → Int64)), (WX q cy (sA xb 2 x0) ++ rest).set 26 (q 26, .inl (cy 1, 3, .inr (.inl xn))) = WX q cy (sA (sA xb 2 x0) 6 xn) ++ rest := fun _ _ _ => rfl
              have hP : va_P D vwCl (WX q cy (sA (sA s76.2 2 r93) 6 r107) ++ rest) H := k_wP (hQ s76.2 r93 r107) hP
              have hD : va_D A (WX q cy (sA (sA s76.2 2 r93) 6 r107) ++ rest) := k_wD (hQ s76.2 r93 r107) hD
              clear hQ
              refine lv_aload_n hx hb dX1_setGone_110 rfl (lv_at hl 0 rfl) ?_
              refine va_get (ci := 1) (v := .ref (q 25)) (C := RX1) (T := TX1) (N := 5) hx hb hts inlX1 hown hE.1 hP 21 rfl rfl 3 (by decide) (hts _ wB73) (fun _ h9 => h9) rfl dX1_setGone_111 ?_
              refine lv_iload hx hb dX1_setGone_114 (lv_at hl 3 rfl) ?_
              refine lv_aload_n hx hb dX1_setGone_116 rfl (lv_at hl 0 rfl) ?_
              refine va_get (ci := 1) (v := .ref (q 24)) (C := RX1) (T := TX1) (N := 5) hx hb hts inlX1 hown hE.1 hP 21 rfl rfl 2 (by decide) (hts _ wB72) (fun _ h9 => h9) rfl dX1_setGone_117 ?_
              refine lv_iload_n hx hb dX1_setGone_120 rfl (lv_at hl 1 rfl) ?_
              obtain ⟨r121, h121r, hf⟩ := o_bs hf
              refine k_gov (va_runS (As := [.ref (q 25), .int (20 - a2), .ref (q 24), .int a2]) (rest := []) ⟨hx, hb, hml, hown, hts⟩ (zX1_mix l D cy sa (WX q cy (sA (sA s76.2 2 r93) 6 r107) ++ rest) H.size 25 (q 25) 3 (gA s76.2 5) 24 (q 24) 3 (gA s76.2 4) (20 - a2) a2 r121 rfl rfl (by decide) h121r) (va_cwS 4 hts (gB_S wB524 wB525 wB32 wB526) rfl rfl rfl (by decide +kernel) ⟨Nat.le_of_ble_eq_true rfl, Nat.le_of_ble_eq_true rfl⟩) ⟨kP.blind, k_pre hP hD hS hE hA⟩ rfl rfl hl.1 rfl (lv_room (Nat.le_of_ble_eq_true rfl)) dX1_setGone_121 ⟨Nat.zero_le _, Nat.zero_le _⟩) hD hS hA (fun H locs hP hD hS => ?_)
              have hQ : ∀ (xb : KS) (x0 : (Nat → Int64)) (x1 : (Nat → Int64)) (xn : (Nat → Int64)), (WX q cy (sA (sA xb 2 x0) 6 x1) ++ rest).set 25 (q 25, .inl (cy 1, 3, .inr (.inl xn))) = WX q cy (sA (sA (sA xb 2 x0) 5 xn) 6 x1) ++ rest := fun _ _ _ _ => rfl
              have hP : va_P D vwCl (WX q cy (sA (sA (sA s76.2 2 r93) 5 r121) 6 r107) ++ rest) H := k_wP (hQ s76.2 r93 r107 r121) hP
              have hD : va_D A (WX q cy (sA (sA (sA s76.2 2 r93) 5 r121) 6 r107) ++ rest) := k_wD (hQ s76.2 r93 r107 r121) hD
              clear hQ
              refine lv_aload_n hx hb dX1_setGone_124 rfl (lv_at hl 0 rfl) ?_
              refine va_get (ci := 1) (v := .ref (q 24)) (C := RX1) (T := TX1) (N := 5) hx hb hts inlX1 hown hE.1 hP 21 rfl rfl 2 (by decide) (hts _ wB72) (fun _ h9 => h9) rfl dX1_setGone_125 ?_
              refine lv_iload hx hb dX1_setGone_128 (lv_at hl 3 rfl) ?_
              refine lv_aload_n hx hb dX1_setGone_130 rfl (lv_at hl 0 rfl) ?_
              refine va_get (ci := 1) (v := .ref (q 24)) (C := RX1) (T := TX1) (N := 5) hx hb hts inlX1 hown hE.1 hP 21 rfl rfl 2 (by decide) (hts _ wB72) (fun _ h9 => h9) rfl dX1_setGone_131 ?_
              refine lv_iconst (v := 0) hx hb dX1_setGone_134 (by decide) ?_
              obtain ⟨r135, h135r, hf⟩ := o_bs hf
              refine k_gov (va_runS (As := [.ref (q 24), .int (20 - a2), .ref (q 24), .int 0]) (rest := []) ⟨hx, hb, hml, hown, hts⟩ (zX1_mix_s l D cy sa (WX q cy (sA (sA (sA s76.2 2 r93) 5 r121) 6 r107) ++ rest) H.size 24 (q 24) 3 (gA s76.2 4) (20 - a2) 0 r135 rfl h135r) (va_cwS 4 hts (gB_S wB524 wB525 wB32 wB526) rfl rfl rfl (by decide +kernel) ⟨Nat.le_of_ble_eq_true rfl, Nat.le_of_ble_eq_true rfl⟩) ⟨kP.blind, k_pre hP hD hS hE hA⟩ rfl rfl hl.1 rfl (lv_room (Nat.le_of_ble_eq_true rfl)) dX1_setGone_135 ⟨Nat.zero_le _, Nat.zero_le _⟩) hD hS hA (fun H locs hP hD hS => ?_)
              have hQ : ∀ (xb : KS) (x0 : (Nat → Int64)) (x1 : (Nat → Int64)) (x2 : (Nat → Int64)) (xn : (Nat → Int64)), (WX q cy (sA (sA (sA xb 2 x0) 5 x1) 6 x2) ++ rest).set 24 (q 24, .inl (cy 1, 3, .inr (.inl xn))) = WX q cy (sA (sA (sA (sA xb 2 x0) 4 xn) 5 x1) 6 x2) ++ rest := fun _ _ _ _ _ => rfl
              have hP : va_P D vwCl (WX q cy (sA (sA (sA (sA s76.2 2 r93) 4 r135) 5 r121) 6 r107) ++ rest) H := k_wP (hQ s76.2 r93 r121 r107 r135) hP
              have hD : va_D A (WX q cy (sA (sA (sA (sA s76.2 2 r93) 4 r135) 5 r121) 6 r107) ++ rest) := k_wD (hQ s76.2 r93 r121 r107 r135) hD
              clear hQ
              refine lv_aload_n hx hb dX1_setGone_138 rfl (lv_at hl 0 rfl) ?_
              refine va_get (ci := 1) (v := .ref (q 23)) (C := RX1) (T := TX1) (N := 5) hx hb hts inlX1 hown hE.1 hP 21 rfl rfl 1 (by decide) (hts _ wB71) (fun _ h9 => h9) rfl dX1_setGone_139 ?_
              refine lv_bipush (v := 20) hx hb dX1_setGone_142 (by decide) ?_
              refine lv_aload_n hx hb dX1_setGone_144 rfl (lv_at hl 0 rfl) ?_
              refine va_get (ci := 1) (v := .ref (q 23)) (C := RX1) (T := TX1) (N := 5) hx hb hts inlX1 hown hE.1 hP 21 rfl rfl 1 (by decide) (hts _ wB71) (fun _ h9 => h9) rfl dX1_setGone_145 ?_
              refine lv_iconst (v := 0) hx hb dX1_setGone_148 (by decide) ?_
              obtain ⟨r149, h149r, hf⟩ := o_bs hf
              refine k_gov (va_runS (As := [.ref (q 23), .int 20, .ref (q 23), .int 0]) (rest := []) ⟨hx, hb, hml, hown, hts⟩ (zX1_mix_s l D cy sa (WX q cy (sA (sA (sA (sA s76.2 2 r93) 4 r135) 5 r121) 6 r107) ++ rest) H.size 23 (q 23) 3 (gA s76.2 3) 20 0 r149 rfl h149r) (va_cwS 4 hts (gB_S wB524 wB525 wB32 wB526) rfl rfl rfl (by decide +kernel) ⟨Nat.le_of_ble_eq_true rfl, Nat.le_of_ble_eq_true rfl⟩) ⟨kP.blind, k_pre hP hD hS hE hA⟩ rfl rfl hl.1 rfl (lv_room (Nat.le_of_ble_eq_true rfl)) dX1_setGone_149 ⟨Nat.zero_le _, Nat.zero_le _⟩) hD hS hA (fun H locs hP hD hS => ?_)
              have hQ : ∀ (xb : KS) (x0 : (Nat → Int64)) (x1 : (Nat → Int64)) (x2 : (Nat → Int64)) (x3 : (Nat → Int64)) (xn : (Nat → Int64)), (WX q cy (sA (sA (sA (sA xb 2 x0) 4 x1) 5 x2) 6 x3) ++ rest).set 23 (q 23, .inl (cy 1, 3, .inr (.inl xn))) = WX q cy (sA (sA (sA (sA (sA xb 2 x0) 3 xn) 4 x1) 5 x2) 6 x3) ++ rest := fun _ _ _ _ _ _ => rfl
              have hP : va_P D vwCl (WX q cy (sA (sA (sA (sA (sA s76.2 2 r93) 3 r149) 4 r135) 5 r121) 6 r107) ++ rest) H := k_wP (hQ s76.2 r93 r135 r121 r107 r149) hP
              have hD : va_D A (WX q cy (sA (sA (sA (sA (sA s76.2 2 r93) 3 r149) 4 r135) 5 r121) 6 r107) ++ rest) := k_wD (hQ s76.2 r93 r135 r121 r107 r149) hD
              clear hQ
              refine lv_iinc (v := (s76.1 + 1)) (lv' := [(5, .int (s76.1 + 1)), (0, .ref (q 21)), (2, .int a2), (3, .int a3), (4, .int (20 - a2))]) hx hb dX1_setGone_152 hl (k := 4) rfl (by rfl) (by decide) rfl (fun ls hl => ?_)
              refine lv_goto (tgt := 76) hx hb dX1_setGone_155 (by decide) ?_
              obtain rfl := o_ret hf
              exact ih76 _ _ (lpK_r h76z) _ _ _ hP hD hS (lv_sub hl [1, 2, 3, 4, 0] rfl) K76_0
        obtain ⟨e76, h76q, hf⟩ := o_bs hf
        obtain ⟨n76v, h76q⟩ := lpF_ex h76q
        refine L76 n76v _ e76 h76q _ _ _ hP hD hS (lv_sub hl [2, 4, 5, 1, 0] rfl) ?_
        intro H locs ls hP hD hS hl
        refine lv_aload_n hx hb dX1_setGone_158 rfl (lv_at hl 0 rfl) ?_
        refine lv_iconst (v := 2) hx hb dX1_setGone_159 (by decide) ?_
        refine lv_iconst (v := 2) hx hb dX1_setGone_160 (by decide) ?_
        refine lv_iload_n hx hb dX1_setGone_161 rfl (lv_at hl 1 rfl) ?_
        refine lv_imul hx hb dX1_setGone_162 ?_
        obtain ⟨r163, h163r, hf⟩ := o_bs hf
        refine k_gov (va_runV (As := [.int 2, .int (2 * a3)]) (rest := []) ⟨hx, hb, hml, hown, hts⟩ (zX1_lower l D cy sa q rest H.size e76 2 (2 * a3) r163 h163r) (cwV 2 hts (gB_V wB527 wB528 wB529 wB32 wB530) rfl rfl rfl (by decide +kernel) ⟨Nat.le_of_ble_eq_true rfl, Nat.le_of_ble_eq_true rfl⟩) ⟨kP.blind, k_recv hE hP (ci := 1) (q0 := 21) rfl rfl, k_pre hP hD hS hE hA⟩ rfl rfl hl.1 rfl (lv_room (Nat.le_of_ble_eq_true rfl)) dX1_setGone_163 ⟨Nat.zero_le _, Nat.zero_le _⟩) hD hS hA (fun H locs hP hD hS => ?_)
        refine lv_aload_n hx hb dX1_setGone_166 rfl (lv_at hl 0 rfl) ?_
        refine lv_iconst (v := 5) hx hb dX1_setGone_167 (by decide) ?_
        refine lv_iload_n hx hb dX1_setGone_168 rfl (lv_at hl 1 rfl) ?_
        obtain ⟨r169, h169r, hf⟩ := o_bs hf
        refine k_gov (va_runV (As := [.int 5, .int a3]) (rest := []) ⟨hx, hb, hml, hown, hts⟩ (zX1_lower l D cy sa q rest H.size r163 5 a3 r169 h169r) (cwV 2 hts (gB_V wB527 wB528 wB529 wB32 wB530) rfl rfl rfl (by decide +kernel) ⟨Nat.le_of_ble_eq_true rfl, Nat.le_of_ble_eq_true rfl⟩) ⟨kP.blind, k_recv hE hP (ci := 1) (q0 := 21) rfl rfl, k_pre hP hD hS hE hA⟩ rfl rfl hl.1 rfl (lv_room (Nat.le_of_ble_eq_true rfl)) dX1_setGone_169 ⟨Nat.zero_le _, Nat.zero_le _⟩) hD hS hA (fun H locs hP hD hS => ?_)
        obtain rfl := o_ret hf
        exact k_vret hx hb hr hP hD hS (Nat.zero_le _) (Nat.zero_le _) hlocks dX1_setGone_172
    · have hf := o_ip c23 hf
      refine lv_lconst (v := 1) hx hb dX1_setGone_26 (by decide) ?_
      refine lv_goto (tgt := 31) hx hb dX1_setGone_27 (by decide) ?_
      obtain ⟨r31, h31r, hf⟩ := o_bs hf
      refine k_gov (va_runS (As := [.ref (q 25), .long 1]) (rest := []) ⟨hx, hb, hml, hown, hts⟩ (zX1_write l D cy sa (WX q cy (sA u 4 r14) ++ rest) H.size 25 (q 25) 3 (gA u 5) 1 r31 rfl h31r) (va_cwS 2 hts (gB_S wB75 wB76 wB32 wB77) rfl rfl rfl (by decide +kernel) ⟨Nat.le_of_ble_eq_true rfl, Nat.le_of_ble_eq_true rfl⟩) ⟨kP.blind, k_pre hP hD hS hE hA⟩ rfl rfl hl.1 rfl (lv_room (Nat.le_of_ble_eq_true rfl)) dX1_setGone_31 ⟨Nat.zero_le _, Nat.zero_le _⟩) hD hS hA (fun H locs hP hD hS => ?_)
      have hQ : ∀ (xb : KS) (x0 : (Nat → Int64)) (xn : (Nat → Int64)), (WX q cy (sA xb 4 x0) ++ rest).set 25 (q 25, .inl (cy 1, 3, .inr (.inl xn))) = WX q cy (sA (sA xb 4 x0) 5 xn) ++ rest := fun _ _ _ => rfl
      have hP : va_P D vwCl (WX q cy (sA (sA u 4 r14) 5 r31) ++ rest) H := k_wP (hQ u r14 r31) hP
      have hD : va_D A (WX q cy (sA (sA u 4 r14) 5 r31) ++ rest) := k_wD (hQ u r14 r31) hD
      clear hQ
      refine lv_aload_n hx hb dX1_setGone_34 rfl (lv_at hl 0 rfl) ?_
      refine va_get (ci := 1) (v := .ref (q 26)) (C := RX1) (T := TX1) (N := 5) hx hb hts inlX1 hown hE.1 hP 21 rfl rfl 4 (by decide) (hts _ wB74) (fun _ h9 => h9) rfl dX1_setGone_35 ?_
      refine lv_iload_n hx hb dX1_setGone_38 rfl (lv_at hl 1 rfl) ?_
      refine lv_iconst (v := 3) hx hb dX1_setGone_39 (by decide) ?_
      refine lv_icmp_ne (tgt := 47) hx hb dX1_setGone_40 (by decide) (fun c40 => ?_) (fun c40 => ?_)
      · have hf := o_in c40 hf
        refine lv_lconst (v := 0) hx hb dX1_setGone_47 (by decide) ?_
        obtain ⟨r48, h48r, hf⟩ := o_bs hf
        refine k_gov (va_runS (As := [.ref (q 26), .long 0]) (rest := []) ⟨hx, hb, hml, hown, hts⟩ (zX1_write l D cy sa (WX q cy (sA (sA u 4 r14) 5 r31) ++ rest) H.size 26 (q 26) 3 (gA u 6) 0 r48 rfl h48r) (va_cwS 2 hts (gB_S wB75 wB76 wB32 wB77) rfl rfl rfl (by decide +kernel) ⟨Nat.le_of_ble_eq_true rfl, Nat.le_of_ble_eq_true rfl⟩) ⟨kP.blind, k_pre hP hD hS hE hA⟩ rfl rfl hl.1 rfl (lv_room (Nat.le_of_ble_eq_true rfl)) dX1_setGone_48 ⟨Nat.zero_le _, Nat.zero_le _⟩) hD hS hA (fun H locs hP hD hS => ?_)
        have hQ : ∀ (xb : KS) (x0 : (Nat → Int64)) (x1 : (Nat → Int64)) (xn : (Nat → Int64)), (WX q cy (sA (sA xb 4 x0) 5 x1) ++ rest).set 26 (q 26, .inl (cy 1, 3, .inr (.inl xn))) = WX q cy (sA (sA (sA xb 4 x0) 5 x1) 6 xn) ++ rest := fun _ _ _ _ => rfl
        have hP : va_P D vwCl (WX q cy (sA (sA (sA u 4 r14) 5 r31) 6 r48) ++ rest) H := k_wP (hQ u r14 r31 r48) hP
        have hD : va_D A (WX q cy (sA (sA (sA u 4 r14) 5 r31) 6 r48) ++ rest) := k_wD (hQ u r14 r31 r48) hD
        clear hQ
        refine lv_aload_n hx hb dX1_setGone_51 rfl (lv_at hl 0 rfl) ?_
        refine va_get (ci := 1) (v := .ref (q 22)) (C := RX1) (T := TX1) (N := 5) hx hb hts inlX1 hown hE.1 hP 21 rfl rfl 0 (by decide) (hts _ wB70) (fun _ h9 => h9) rfl dX1_setGone_52 ?_
        refine lv_lconst (v := 0) hx hb dX1_setGone_55 (by decide) ?_
        obtain ⟨r56, h56r, hf⟩ := o_bs hf
        refine k_gov (va_runS (As := [.ref (q 22), .long 0]) (rest := []) ⟨hx, hb, hml, hown, hts⟩ (zX1_write l D cy sa (WX q cy (sA (sA (sA u 4 r14) 5 r31) 6 r48) ++ rest) H.size 22 (q 22) 3 (gA u 2) 0 r56 rfl h56r) (va_cwS 2 hts (gB_S wB75 wB76 wB32 wB77) rfl rfl rfl (by decide +kernel) ⟨Nat.le_of_ble_eq_true rfl, Nat.le_of_ble_eq_true rfl⟩) ⟨kP.blind, k_pre hP hD hS hE hA⟩ rfl rfl hl.1 rfl (lv_room (Nat.le_of_ble_eq_true rfl)) dX1_setGone_56 ⟨Nat.zero_le _, Nat.zero_le _⟩) hD hS hA (fun H locs hP hD hS => ?_)
        have hQ : ∀ (xb : KS) (x0 : (Nat → Int64)) (x1 : (Nat → Int64)) (x2 : (Nat → Int64)) (xn : (Nat → Int64)), (WX q cy (sA (sA (sA xb 4 x0) 5 x1) 6 x2) ++ rest).set 22 (q 22, .inl (cy 1, 3, .inr (.inl xn))) = WX q cy (sA (sA (sA (sA xb 2 xn) 4 x0) 5 x1) 6 x2) ++ rest := fun _ _ _ _ _ => rfl
        have hP : va_P D vwCl (WX q cy (sA (sA (sA (sA u 2 r56) 4 r14) 5 r31) 6 r48) ++ rest) H := k_wP (hQ u r14 r31 r48 r56) hP
        have hD : va_D A (WX q cy (sA (sA (sA (sA u 2 r56) 4 r14) 5 r31) 6 r48) ++ rest) := k_wD (hQ u r14 r31 r48 r56) hD
        clear hQ
        refine lv_aload_n hx hb dX1_setGone_59 rfl (lv_at hl 0 rfl) ?_
        refine va_get (ci := 1) (v := .ref (q 23)) (C := RX1) (T := TX1) (N := 5) hx hb hts inlX1 hown hE.1 hP 21 rfl rfl 1 (by decide) (hts _ wB71) (fun _ h9 => h9) rfl dX1_setGone_60 ?_
        refine lv_lconst (v := 1) hx hb dX1_setGone_63 (by decide) ?_
        obtain ⟨r64, h64r, hf⟩ := o_bs hf
        refine k_gov (va_runS (As := [.ref (q 23), .long 1]) (rest := []) ⟨hx, hb, hml, hown, hts⟩ (zX1_write l D cy sa (WX q cy (sA (sA (sA (sA u 2 r56) 4 r14) 5 r31) 6 r48) ++ rest) H.size 23 (q 23) 3 (gA u 3) 1 r64 rfl h64r) (va_cwS 2 hts (gB_S wB75 wB76 wB32 wB77) rfl rfl rfl (by decide +kernel) ⟨Nat.le_of_ble_eq_true rfl, Nat.le_of_ble_eq_true rfl⟩) ⟨kP.blind, k_pre hP hD hS hE hA⟩ rfl rfl hl.1 rfl (lv_room (Nat.le_of_ble_eq_true rfl)) dX1_setGone_64 ⟨Nat.zero_le _, Nat.zero_le _⟩) hD hS hA (fun H locs hP hD hS => ?_)
        have hQ : ∀ (xb : KS) (x0 : (Nat → Int64)) (x1 : (Nat → Int64)) (x2 : (Nat → Int64)) (x3 : (Nat → Int64)) (xn : (Nat → Int64)), (WX q cy (sA (sA (sA (sA xb 2 x0) 4 x1) 5 x2) 6 x3) ++ rest).set 23 (q 23, .inl (cy 1, 3, .inr (.inl xn))) = WX q cy (sA (sA (sA (sA (sA xb 2 x0) 3 xn) 4 x1) 5 x2) 6 x3) ++ rest := fun _ _ _ _ _ _ => rfl
        have hP : va_P D vwCl (WX q cy (sA (sA (sA (sA (sA u 2 r56) 3 r64) 4 r14) 5 r31) 6 r48) ++ rest) H := k_wP (hQ u r56 r14 r31 r48 r64) hP
        have hD : va_D A (WX q cy (sA (sA (sA (sA (sA u 2 r56) 3 r64) 4 r14) 5 r31) 6 r48) ++ rest) := k_wD (hQ u r56 r14 r31 r48 r64) hD
        clear hQ
        refine lv_bipush (v := 20) hx hb dX1_setGone_67 (by decide) ?_
        refine lv_iload_n hx hb dX1_setGone_69 rfl (lv_at hl 2 rfl) ?_
        refine lv_isub hx hb dX1_setGone_70 ?_
        refine lv_istore (lv' := [(4, .int (20 - a2)), (0, .ref (q 21)), (1, .int a1), (2, .int a2), (3, .int a3)]) hx hb dX1_setGone_71 hl (by decide) rfl (fun ls hl => ?_)
        refine lv_iconst (v := 0) hx hb dX1_setGone_73 (by decide) ?_
        refine lv_istore (lv' := [(5, .int 0), (4, .int (20 - a2)), (0, .ref (q 21)), (1, .int a1), (2, .int a2), (3, .int a3)]) hx hb dX1_setGone_74 hl (by decide) rfl (fun ls hl => ?_)
        have L76 : ∀ (n76v : Nat) (s76 : Int32 × KS) (e76 : KS), lpO (mX1_setGone_s76 a2 a3 (20 - a2)) n76v s76 = some e76 → ∀ (H : Heap) (locs : List Loc) (ls : Array Slot), va_P D vwCl (WX q cy s76.2 ++ rest) H → va_D A (WX q cy s76.2 ++ rest) → va_S A s.heap H locs → lv_has ls 6 [(0, .ref (q 21)), (2, .int a2), (3, .int a3), (4, .int (20 - a2)), (5, .int s76.1)] → (∀ (H : Heap) (locs : List Loc) (ls : Array Slot), va_P D vwCl (WX q cy e76 ++ rest) H → va_D A (WX q cy e76 ++ rest) → va_S A s.heap H locs → lv_has ls 6 [(0, .ref (q 21)), (3, .int a3)] → W p l e rmX1_setGone s m ([.ref (q 21), .int a1, .int a2, .int a3] : List Value).toArray below meth c H locs 0 0 (MQ below (kQv D A (WX q cy res ++ rest)) ([.ref (q 21), .int a1, .int a2, .int a3] : List Value).toArray s 0 0 A) (F0 m 158 ls [])) → W p l e rmX1_setGone s m ([.ref (q 21), .int a1, .int a2, .int a3] : List Value).toArray below meth c H locs 0 0 (MQ below (kQv D A (WX q cy res ++ rest)) ([.ref (q 21), .int a1, .int a2, .int a3] : List Value).toArray s 0 0 A) (F0 m 76 ls []) := by
          intro n76v
          induction n76v with
          | zero => intro s76 e76 h; exact (lpO_z h).elim
          | succ n76v ih76 =>
            intro s76 e76 h76z H locs ls hP hD hS hl K76_0
            obtain ⟨x76, hf, h76z⟩ := lpO_s h76z
            unfold mX1_setGone_s76 at hf
            refine lv_iload hx hb dX1_setGone_76 (lv_at hl 4 rfl) ?_
            refine lv_iload_n hx hb dX1_setGone_78 rfl (lv_at hl 2 rfl) ?_
            refine lv_icmp_ge (tgt := 158) hx hb dX1_setGone_79 (by decide) (fun c79 => ?_) (fun c79 => ?_)
            · have hf := o_ip c79 hf
              obtain rfl := o_ret hf
              obtain rfl := lpK_l h76z
              exact K76_0 _ _ _ hP hD hS (lv_sub hl [0, 2] rfl)
            · have hf := o_in c79 hf
              refine lv_aload_n hx hb dX1_setGone_82 rfl (lv_at hl 0 rfl) ?_
              refine va_get (ci := 1) (v := .ref (q 22)) (C := RX1) (T := TX1) (N := 5) hx hb hts inlX1 hown hE.1 hP 21 rfl rfl 0 (by decide) (hts _ wB70) (fun _ h9 => h9) rfl dX1_setGone_83 ?_
              refine lv_bipush (v := 20) hx hb dX1_setGone_86 (by decide) ?_
              refine lv_aload_n hx hb dX1_setGone_88 rfl (lv_at hl 0 rfl) ?_
              refine va_get (ci := 1) (v := .ref (q 26)) (C := RX1) (T := TX1) (N := 5) hx hb hts inlX1 hown hE.1 hP 21 rfl rfl 4 (by decide) (hts _ wB74) (fun _ h9 => h9) rfl dX1_setGone_89 ?_
              refine lv_iload_n hx hb dX1_setGone_92 rfl (lv_at hl 1 rfl) ?_
              obtain ⟨r93, h93r, hf⟩ := o_bs hf
              refine k_gov (va_runS (As := [.ref (q 22), .int 20, .ref (q 26), .int a2]) (rest := []) ⟨hx, hb, hml, hown, hts⟩ (zX1_mix l D cy sa (WX q cy s76.2 ++ rest) H.size 22 (q 22) 3 (gA s76.2 2) 26 (q 26) 3 (gA s76.2 6) 20 a2 r93 rfl rfl (by decide) h93r) (va_cwS 4 hts (gB_S wB524 wB525 wB32 wB526) rfl rfl rfl (by decide +kernel) ⟨Nat.le_of_ble_eq_true rfl, Nat.le_of_ble_eq_true rfl⟩) ⟨kP.blind, k_pre hP hD hS hE hA⟩ rfl rfl hl.1 rfl (lv_room (Nat.le_of_ble_eq_true rfl)) dX1_setGone_93 ⟨Nat.zero_le _, Nat.zero_le _⟩) hD hS hA (fun H locs hP hD hS => ?_)
              have hP : va_P D vwCl (WX q cy (sA s76.2 2 r93) ++ rest) H := hP
              have hD : va_D A (WX q cy (sA s76.2 2 r93) ++ rest) := hD
              refine lv_aload_n hx hb dX1_setGone_96 rfl (lv_at hl 0 rfl) ?_
              refine va_get (ci := 1) (v := .ref (q 26)) (C := RX1) (T := TX1) (N := 5) hx hb hts inlX1 hown hE.1 hP 21 rfl rfl 4 (by decide) (hts _ wB74) (fun _ h9 => h9) rfl dX1_setGone_97 ?_
              refine lv_iload hx hb dX1_setGone_100 (lv_at hl 3 rfl) ?_
              refine lv_aload_n hx hb dX1_setGone_102 rfl (lv_at hl 0 rfl) ?_
              refine va_get (ci := 1) (v := .ref (q 25)) (C := RX1) (T := TX1) (N := 5) hx hb hts inlX1 hown hE.1 hP 21 rfl rfl 3 (by decide) (hts _ wB73) (fun _ h9 => h9) rfl dX1_setGone_103 ?_
              refine lv_iload_n hx hb dX1_setGone_106 rfl (lv_at hl 1 rfl) ?_
              obtain ⟨r107, h107r, hf⟩ := o_bs hf
              refine k_gov (va_runS (As := [.ref (q 26), .int (20 - a2), .ref (q 25), .int a2]) (rest := []) ⟨hx, hb, hml, hown, hts⟩ (zX1_mix l D cy sa (WX q cy (sA s76.2 2 r93) ++ rest) H.size 26 (q 26) 3 (gA s76.2 6) 25 (q 25) 3 (gA s76.2 5) (20 - a2) a2 r107 rfl rfl (by decide) h107r) (va_cwS 4 hts (gB_S wB524 wB525 wB32 wB526) rfl rfl rfl (by decide +kernel) ⟨Nat.le_of_ble_eq_true rfl, Nat.le_of_ble_eq_true rfl⟩) ⟨kP.blind, k_pre hP hD hS hE hA⟩ rfl rfl hl.1 rfl (lv_room (Nat.le_of_ble_eq_true rfl)) dX1_setGone_107 ⟨Nat.zero_le _, Nat.zero_le _⟩) hD hS hA (fun H locs hP hD hS => ?_)
              have hQ : ∀ (xb : KS) (x0 : (Nat → Int64)) (xn : (Nat → Int64)), (WX q cy (sA xb 2 x0) ++ rest).set 26 (q 26, .inl (cy 1, 3, .inr (.inl xn))) = WX q cy (sA (sA xb 2 x0) 6 xn) ++ rest := fun _ _ _ => rfl
              have hP : va_P D vwCl (WX q cy (sA (sA s76.2 2 r93) 6 r107) ++ rest) H := k_wP (hQ s76.2 r93 r107) hP
              have hD : va_D A (WX q cy (sA (sA s76.2 2 r93) 6 r107) ++ rest) := k_wD (hQ s76.2 r93 r107) hD
              clear hQ
              refine lv_aload_n hx hb dX1_setGone_110 rfl (lv_at hl 0 rfl) ?_
              refine va_get (ci := 1) (v := .ref (q 25)) (C := RX1) (T := TX1) (N := 5) hx hb hts inlX1 hown hE.1 hP 21 rfl rfl 3 (by decide) (hts _ wB73) (fun _ h9 => h9) rfl dX1_setGone_111 ?_
              refine lv_iload hx hb dX1_setGone_114 (lv_at hl 3 rfl) ?_
              refine lv_aload_n hx hb dX1_setGone_116 rfl (lv_at hl 0 rfl) ?_
              refine va_get (ci := 1) (v := .ref (q 24)) (C := RX1) (T := TX1) (N := 5) hx hb hts inlX1 hown hE.1 hP 21 rfl rfl 2 (by decide) (hts _ wB72) (fun _ h9 => h9) rfl dX1_setGone_117 ?_
              refine lv_iload_n hx hb dX1_setGone_120 rfl (lv_at hl 1 rfl) ?_
              obtain ⟨r121, h121r, hf⟩ := o_bs hf
              refine k_gov (va_runS (As := [.ref (q 25), .int (20 - a2), .ref (q 24), .int a2]) (rest := []) ⟨hx, hb, hml, hown, hts⟩ (zX1_mix l D cy sa (WX q cy (sA (sA s76.2 2 r93) 6 r107) ++ rest) H.size 25 (q 25) 3 (gA s76.2 5) 24 (q 24) 3 (gA s76.2 4) (20 - a2) a2 r121 rfl rfl (by decide) h121r) (va_cwS 4 hts (gB_S wB524 wB525 wB32 wB526) rfl rfl rfl (by decide +kernel) ⟨Nat.le_of_ble_eq_true rfl, Nat.le_of_ble_eq_true rfl⟩) ⟨kP.blind, k_pre hP hD hS hE hA⟩ rfl rfl hl.1 rfl (lv_room (Nat.le_of_ble_eq_true rfl)) dX1_setGone_121 ⟨Nat.zero_le _, Nat.zero_le _⟩) hD hS hA (fun H locs hP hD hS => ?_)
              have hQ : ∀ (xb : KS) (x0 : (Nat → Int64)) (x1 : (Nat → Int64)) (xn : (Nat → Int64)), (WX q cy (sA (sA xb 2 x0) 6 x1) ++ rest).set 25 (q 25, .inl (cy 1, 3, .inr (.inl xn))) = WX q cy (sA (sA (sA xb 2 x0) 5 xn) 6 x1) ++ rest := fun _ _ _ _ => rfl
              have hP : va_P D vwCl (WX q cy (sA (sA (sA s76.2 2 r93) 5 r121) 6 r107) ++ rest) H := k_wP (hQ s76.2 r93 r107 r121) hP
              have hD : va_D A (WX q cy (sA (sA (sA s76.2 2 r93) 5 r121) 6 r107) ++ rest) := k_wD (hQ s76.2 r93 r107 r121) hD
              clear hQ
              refine lv_aload_n hx hb dX1_setGone_124 rfl (lv_at hl 0 rfl) ?_
              refine va_get (ci := 1) (v := .ref (q 24)) (C := RX1) (T := TX1) (N := 5) hx hb hts inlX1 hown hE.1 hP 21 rfl rfl 2 (by decide) (hts _ wB72) (fun _ h9 => h9) rfl dX1_setGone_125 ?_
              refine lv_iload hx hb dX1_setGone_128 (lv_at hl 3 rfl) ?_
              refine lv_aload_n hx hb dX1_setGone_130 rfl (lv_at hl 0 rfl) ?_
              refine va_get (ci := 1) (v := .ref (q 24)) (C := RX1) (T := TX1) (N := 5) hx hb hts inlX1 hown hE.1 hP 21 rfl rfl 2 (by decide) (hts _ wB72) (fun _ h9 => h9) rfl dX1_setGone_131 ?_
              refine lv_iconst (v := 0) hx hb dX1_setGone_134 (by decide) ?_
              obtain ⟨r135, h135r, hf⟩ := o_bs hf
              refine k_gov (va_runS (As := [.ref (q 24), .int (20 - a2), .ref (q 24), .int 0]) (rest := []) ⟨hx, hb, hml, hown, hts⟩ (zX1_mix_s l D cy sa (WX q cy (sA (sA (sA s76.2 2 r93) 5 r121) 6 r107) ++ rest) H.size 24 (q 24) 3 (gA s76.2 4) (20 - a2) 0 r135 rfl h135r) (va_cwS 4 hts (gB_S wB524 wB525 wB32 wB526) rfl rfl rfl (by decide +kernel) ⟨Nat.le_of_ble_eq_true rfl, Nat.le_of_ble_eq_true rfl⟩) ⟨kP.blind, k_pre hP hD hS hE hA⟩ rfl rfl hl.1 rfl (lv_room (Nat.le_of_ble_eq_true rfl)) dX1_setGone_135 ⟨Nat.zero_le _, Nat.zero_le _⟩) hD hS hA (fun H locs hP hD hS => ?_)
              have hQ : ∀ (xb : KS) (x0 : (Nat → Int64)) (x1 : (Nat → Int64)) (x2 : (Nat → Int64)) (xn : (Nat → Int64)), (WX q cy (sA (sA (sA xb 2 x0) 5 x1) 6 x2) ++ rest).set 24 (q 24, .inl (cy 1, 3, .inr (.inl xn))) = WX q cy (sA (sA (sA (sA xb 2 x0) 4 xn) 5 x1) 6 x2) ++ rest := fun _ _ _ _ _ => rfl
              have hP : va_P D vwCl (WX q cy (sA (sA (sA (sA s76.2 2 r93) 4 r135) 5 r121) 6 r107) ++ rest) H := k_wP (hQ s76.2 r93 r121 r107 r135) hP
              have hD : va_D A (WX q cy (sA (sA (sA (sA s76.2 2 r93) 4 r135) 5 r121) 6 r107) ++ rest) := k_wD (hQ s76.2 r93 r121 r107 r135) hD
              clear hQ
              refine lv_aload_n hx hb dX1_setGone_138 rfl (lv_at hl 0 rfl) ?_
              refine va_get (ci := 1) (v := .ref (q 23)) (C := RX1) (T := TX1) (N := 5) hx hb hts inlX1 hown hE.1 hP 21 rfl rfl 1 (by decide) (hts _ wB71) (fun _ h9 => h9) rfl dX1_setGone_139 ?_
              refine lv_bipush (v := 20) hx hb dX1_setGone_142 (by decide) ?_
              refine lv_aload_n hx hb dX1_setGone_144 rfl (lv_at hl 0 rfl) ?_
              refine va_get (ci := 1) (v := .ref (q 23)) (C := RX1) (T := TX1) (N := 5) hx hb hts inlX1 hown hE.1 hP 21 rfl rfl 1 (by decide) (hts _ wB71) (fun _ h9 => h9) rfl dX1_setGone_145 ?_
              refine lv_iconst (v := 0) hx hb dX1_setGone_148 (by decide) ?_
              obtain ⟨r149, h149r, hf⟩ := o_bs hf
              refine k_gov (va_runS (As := [.ref (q 23), .int 20, .ref (q 23), .int 0]) (rest := []) ⟨hx, hb, hml, hown, hts⟩ (zX1_mix_s l D cy sa (WX q cy (sA (sA (sA (sA s76.2 2 r93) 4 r135) 5 r121) 6 r107) ++ rest) H.size 23 (q 23) 3 (gA s76.2 3) 20 0 r149 rfl h149r) (va_cwS 4 hts (gB_S wB524 wB525 wB32 wB526) rfl rfl rfl (by decide +kernel) ⟨Nat.le_of_ble_eq_true rfl, Nat.le_of_ble_eq_true rfl⟩) ⟨kP.blind, k_pre hP hD hS hE hA⟩ rfl rfl hl.1 rfl (lv_room (Nat.le_of_ble_eq_true rfl)) dX1_setGone_149 ⟨Nat.zero_le _, Nat.zero_le _⟩) hD hS hA (fun H locs hP hD hS => ?_)
              have hQ : ∀ (xb : KS) (x0 : (Nat → Int64)) (x1 : (Nat → Int64)) (x2 : (Nat → Int64)) (x3 : (Nat → Int64)) (xn : (Nat → Int64)), (WX q cy (sA (sA (sA (sA xb 2 x0) 4 x1) 5 x2) 6 x3) ++ rest).set 23 (q 23, .inl (cy 1, 3, .inr (.inl xn))) = WX q cy (sA (sA (sA (sA (sA xb 2 x0) 3 xn) 4 x1) 5 x2) 6 x3) ++ rest := fun _ _ _ _ _ _ => rfl
              have hP : va_P D vwCl (WX q cy (sA (sA (sA (sA (sA s76.2 2 r93) 3 r149) 4 r135) 5 r121) 6 r107) ++ rest) H := k_wP (hQ s76.2 r93 r135 r121 r107 r149) hP
              have hD : va_D A (WX q cy (sA (sA (sA (sA (sA s76.2 2 r93) 3 r149) 4 r135) 5 r121) 6 r107) ++ rest) := k_wD (hQ s76.2 r93 r135 r121 r107 r149) hD
              clear hQ
              refine lv_iinc (v := (s76.1 + 1)) (lv' := [(5, .int (s76.1 + 1)), (0, .ref (q 21)), (2, .int a2), (3, .int a3), (4, .int (20 - a2))]) hx hb dX1_setGone_152 hl (k := 4) rfl (by rfl) (by decide) rfl (fun ls hl => ?_)
              refine lv_goto (tgt := 76) hx hb dX1_setGone_155 (by decide) ?_
              obtain rfl := o_ret hf
              exact ih76 _ _ (lpK_r h76z) _ _ _ hP hD hS (lv_sub hl [1, 2, 3, 4, 0] rfl) K76_0
        obtain ⟨e76, h76q, hf⟩ := o_bs hf
        obtain ⟨n76v, h76q⟩ := lpF_ex h76q
        refine L76 n76v _ e76 h76q _ _ _ hP hD hS (lv_sub hl [2, 4, 5, 1, 0] rfl) ?_
        intro H locs ls hP hD hS hl
        refine lv_aload_n hx hb dX1_setGone_158 rfl (lv_at hl 0 rfl) ?_
        refine lv_iconst (v := 2) hx hb dX1_setGone_159 (by decide) ?_
        refine lv_iconst (v := 2) hx hb dX1_setGone_160 (by decide) ?_
        refine lv_iload_n hx hb dX1_setGone_161 rfl (lv_at hl 1 rfl) ?_
        refine lv_imul hx hb dX1_setGone_162 ?_
        obtain ⟨r163, h163r, hf⟩ := o_bs hf
        refine k_gov (va_runV (As := [.int 2, .int (2 * a3)]) (rest := []) ⟨hx, hb, hml, hown, hts⟩ (zX1_lower l D cy sa q rest H.size e76 2 (2 * a3) r163 h163r) (cwV 2 hts (gB_V wB527 wB528 wB529 wB32 wB530) rfl rfl rfl (by decide +kernel) ⟨Nat.le_of_ble_eq_true rfl, Nat.le_of_ble_eq_true rfl⟩) ⟨kP.blind, k_recv hE hP (ci := 1) (q0 := 21) rfl rfl, k_pre hP hD hS hE hA⟩ rfl rfl hl.1 rfl (lv_room (Nat.le_of_ble_eq_true rfl)) dX1_setGone_163 ⟨Nat.zero_le _, Nat.zero_le _⟩) hD hS hA (fun H locs hP hD hS => ?_)
        refine lv_aload_n hx hb dX1_setGone_166 rfl (lv_at hl 0 rfl) ?_
        refine lv_iconst (v := 5) hx hb dX1_setGone_167 (by decide) ?_
        refine lv_iload_n hx hb dX1_setGone_168 rfl (lv_at hl 1 rfl) ?_
        obtain ⟨r169, h169r, hf⟩ := o_bs hf
        refine k_gov (va_runV (As := [.int 5, .int a3]) (rest := []) ⟨hx, hb, hml, hown, hts⟩ (zX1_lower l D cy sa q rest H.size r163 5 a3 r169 h169r) (cwV 2 hts (gB_V wB527 wB528 wB529 wB32 wB530) rfl rfl rfl (by decide +kernel) ⟨Nat.le_of_ble_eq_true rfl, Nat.le_of_ble_eq_true rfl⟩) ⟨kP.blind, k_recv hE hP (ci := 1) (q0 := 21) rfl rfl, k_pre hP hD hS hE hA⟩ rfl rfl hl.1 rfl (lv_room (Nat.le_of_ble_eq_true rfl)) dX1_setGone_169 ⟨Nat.zero_le _, Nat.zero_le _⟩) hD hS hA (fun H locs hP hD hS => ?_)
        obtain rfl := o_ret hf
        exact k_vret hx hb hr hP hD hS (Nat.zero_le _) (Nat.zero_le _) hlocks dX1_setGone_172
      · have hf := o_ip c40 hf
        refine lv_lconst (v := 1) hx hb dX1_setGone_43 (by decide) ?_
        refine lv_goto (tgt := 48) hx hb dX1_setGone_44 (by decide) ?_
        obtain ⟨r48, h48r, hf⟩ := o_bs hf
        refine k_gov (va_runS (As := [.ref (q 26), .long 1]) (rest := []) ⟨hx, hb, hml, hown, hts⟩ (zX1_write l D cy sa (WX q cy (sA (sA u 4 r14) 5 r31) ++ rest) H.size 26 (q 26) 3 (gA u 6) 1 r48 rfl h48r) (va_cwS 2 hts (gB_S wB75 wB76 wB32 wB77) rfl rfl rfl (by decide +kernel) ⟨Nat.le_of_ble_eq_true rfl, Nat.le_of_ble_eq_true rfl⟩) ⟨kP.blind, k_pre hP hD hS hE hA⟩ rfl rfl hl.1 rfl (lv_room (Nat.le_of_ble_eq_true rfl)) dX1_setGone_48 ⟨Nat.zero_le _, Nat.zero_le _⟩) hD hS hA (fun H locs hP hD hS => ?_)
        have hQ : ∀ (xb : KS) (x0 : (Nat → Int64)) (x1 : (Nat → Int64)) (xn : (Nat → Int64)), (WX q cy (sA (sA xb 4 x0) 5 x1) ++ rest).set 26 (q 26, .inl (cy 1, 3, .inr (.inl xn))) = WX q cy (sA (sA (sA xb 4 x0) 5 x1) 6 xn) ++ rest := fun _ _ _ _ => rfl
        have hP : va_P D vwCl (WX q cy (sA (sA (sA u 4 r14) 5 r31) 6 r48) ++ rest) H := k_wP (hQ u r14 r31 r48) hP
        have hD : va_D A (WX q cy (sA (sA (sA u 4 r14) 5 r31) 6 r48) ++ rest) := k_wD (hQ u r14 r31 r48) hD
        clear hQ
        refine lv_aload_n hx hb dX1_setGone_51 rfl (lv_at hl 0 rfl) ?_
        refine va_get (ci := 1) (v := .ref (q 22)) (C := RX1) (T := TX1) (N := 5) hx hb hts inlX1 hown hE.1 hP 21 rfl rfl 0 (by decide) (hts _ wB70) (fun _ h9 => h9) rfl dX1_setGone_52 ?_
        refine lv_lconst (v := 0) hx hb dX1_setGone_55 (by decide) ?_
        obtain ⟨r56, h56r, hf⟩ := o_bs hf
        refine k_gov (va_runS (As := [.ref (q 22), .long 0]) (rest := []) ⟨hx, hb, hml, hown, hts⟩ (zX1_write l D cy sa (WX q cy (sA (sA (sA u 4 r14) 5 r31) 6 r48) ++ rest) H.size 22 (q 22) 3 (gA u 2) 0 r56 rfl h56r) (va_cwS 2 hts (gB_S wB75 wB76 wB32 wB77) rfl rfl rfl (by decide +kernel) ⟨Nat.le_of_ble_eq_true rfl, Nat.le_of_ble_eq_true rfl⟩) ⟨kP.blind, k_pre hP hD hS hE hA⟩ rfl rfl hl.1 rfl (lv_room (Nat.le_of_ble_eq_true rfl)) dX1_setGone_56 ⟨Nat.zero_le _, Nat.zero_le _⟩) hD hS hA (fun H locs hP hD hS => ?_)
        have hQ : ∀ (xb : KS) (x0 : (Nat → Int64)) (x1 : (Nat → Int64)) (x2 : (Nat → Int64)) (xn : (Nat → Int64)), (WX q cy (sA (sA (sA xb 4 x0) 5 x1) 6 x2) ++ rest).set 22 (q 22, .inl (cy 1, 3, .inr (.inl xn))) = WX q cy (sA (sA (sA (sA xb 2 xn) 4 x0) 5 x1) 6 x2) ++ rest := fun _ _ _ _ _ => rfl
        have hP : va_P D vwCl (WX q cy (sA (sA (sA (sA u 2 r56) 4 r14) 5 r31) 6 r48) ++ rest) H := k_wP (hQ u r14 r31 r48 r56) hP
        have hD : va_D A (WX q cy (sA (sA (sA (sA u 2 r56) 4 r14) 5 r31) 6 r48) ++ rest) := k_wD (hQ u r14 r31 r48 r56) hD
        clear hQ
        refine lv_aload_n hx hb dX1_setGone_59 rfl (lv_at hl 0 rfl) ?_
        refine va_get (ci := 1) (v := .ref (q 23)) (C := RX1) (T := TX1) (N := 5) hx hb hts inlX1 hown hE.1 hP 21 rfl rfl 1 (by decide) (hts _ wB71) (fun _ h9 => h9) rfl dX1_setGone_60 ?_
        refine lv_lconst (v := 1) hx hb dX1_setGone_63 (by decide) ?_
        obtain ⟨r64, h64r, hf⟩ := o_bs hf
        refine k_gov (va_runS (As := [.ref (q 23), .long 1]) (rest := []) ⟨hx, hb, hml, hown, hts⟩ (zX1_write l D cy sa (WX q cy (sA (sA (sA (sA u 2 r56) 4 r14) 5 r31) 6 r48) ++ rest) H.size 23 (q 23) 3 (gA u 3) 1 r64 rfl h64r) (va_cwS 2 hts (gB_S wB75 wB76 wB32 wB77) rfl rfl rfl (by decide +kernel) ⟨Nat.le_of_ble_eq_true rfl, Nat.le_of_ble_eq_true rfl⟩) ⟨kP.blind, k_pre hP hD hS hE hA⟩ rfl rfl hl.1 rfl (lv_room (Nat.le_of_ble_eq_true rfl)) dX1_setGone_64 ⟨Nat.zero_le _, Nat.zero_le _⟩) hD hS hA (fun H locs hP hD hS => ?_)
        have hQ : ∀ (xb : KS) (x0 : (Nat → Int64)) (x1 : (Nat → Int64)) (x2 : (Nat → Int64)) (x3 : (Nat → Int64)) (xn : (Nat → Int64)), (WX q cy (sA (sA (sA (sA xb 2 x0) 4 x1) 5 x2) 6 x3) ++ rest).set 23 (q 23, .inl (cy 1, 3, .inr (.inl xn))) = WX q cy (sA (sA (sA (sA (sA xb 2 x0) 3 xn) 4 x1) 5 x2) 6 x3) ++ rest := fun _ _ _ _ _ _ => rfl
        have hP : va_P D vwCl (WX q cy (sA (sA (sA (sA (sA u 2 r56) 3 r64) 4 r14) 5 r31) 6 r48) ++ rest) H := k_wP (hQ u r56 r14 r31 r48 r64) hP
        have hD : va_D A (WX q cy (sA (sA (sA (sA (sA u 2 r56) 3 r64) 4 r14) 5 r31) 6 r48) ++ rest) := k_wD (hQ u r56 r14 r31 r48 r64) hD
        clear hQ
        refine lv_bipush (v := 20) hx hb dX1_setGone_67 (by decide) ?_
        refine lv_iload_n hx hb dX1_setGone_69 rfl (lv_at hl 2 rfl) ?_
        refine lv_isub hx hb dX1_setGone_70 ?_
        refine lv_istore (lv' := [(4, .int (20 - a2)), (0, .ref (q 21)), (1, .int a1), (2, .int a2), (3, .int a3)]) hx hb dX1_setGone_71 hl (by decide) rfl (fun ls hl => ?_)
        refine lv_iconst (v := 0) hx hb dX1_setGone_73 (by decide) ?_
        refine lv_istore (lv' := [(5, .int 0), (4, .int (20 - a2)), (0, .ref (q 21)), (1, .int a1), (2, .int a2), (3, .int a3)]) hx hb dX1_setGone_74 hl (by decide) rfl (fun ls hl => ?_)
        have L76 : ∀ (n76v : Nat) (s76 : Int32 × KS) (e76 : KS), lpO (mX1_setGone_s76 a2 a3 (20 - a2)) n76v s76 = some e76 → ∀ (H : Heap) (locs : List Loc) (ls : Array Slot), va_P D vwCl (WX q cy s76.2 ++ rest) H → va_D A (WX q cy s76.2 ++ rest) → va_S A s.heap H locs → lv_has ls 6 [(0, .ref (q 21)), (2, .int a2), (3, .int a3), (4, .int (20 - a2)), (5, .int s76.1)] → (∀ (H : Heap) (locs : List Loc) (ls : Array Slot), va_P D vwCl (WX q cy e76 ++ rest) H → va_D A (WX q cy e76 ++ rest) → va_S A s.heap H locs → lv_has ls 6 [(0, .ref (q 21)), (3, .int a3)] → W p l e rmX1_setGone s m ([.ref (q 21), .int a1, .int a2, .int a3] : List Value).toArray below meth c H locs 0 0 (MQ below (kQv D A (WX q cy res ++ rest)) ([.ref (q 21), .int a1, .int a2, .int a3] : List Value).toArray s 0 0 A) (F0 m 158 ls [])) → W p l e rmX1_setGone s m ([.ref (q 21), .int a1, .int a2, .int a3] : List Value).toArray below meth c H locs 0 0 (MQ below (kQv D A (WX q cy res ++ rest)) ([.ref (q 21), .int a1, .int a2, .int a3] : List Value).toArray s 0 0 A) (F0 m 76 ls []) := by
          intro n76v
          induction n76v with
          | zero => intro s76 e76 h; exact (lpO_z h).elim
          | succ n76v ih76 =>
            intro s76 e76 h76z H locs ls hP hD hS hl K76_0
            obtain ⟨x76, hf, h76z⟩ := lpO_s h76z
            unfold mX1_setGone_s76 at hf
            refine lv_iload hx hb dX1_setGone_76 (lv_at hl 4 rfl) ?_
            refine lv_iload_n hx hb dX1_setGone_78 rfl (lv_at hl 2 rfl) ?_
            refine lv_icmp_ge (tgt := 158) hx hb dX1_setGone_79 (by decide) (fun c79 => ?_) (fun c79 => ?_)
            · have hf := o_ip c79 hf
              obtain rfl := o_ret hf
              obtain rfl := lpK_l h76z
              exact K76_0 _ _ _ hP hD hS (lv_sub hl [0, 2] rfl)
            · have hf := o_in c79 hf
              refine lv_aload_n hx hb dX1_setGone_82 rfl (lv_at hl 0 rfl) ?_
              refine va_get (ci := 1) (v := .ref (q 22)) (C := RX1) (T := TX1) (N := 5) hx hb hts inlX1 hown hE.1 hP 21 rfl rfl 0 (by decide) (hts _ wB70) (fun _ h9 => h9) rfl dX1_setGone_83 ?_
              refine lv_bipush (v := 20) hx hb dX1_setGone_86 (by decide) ?_
              refine lv_aload_n hx hb dX1_setGone_88 rfl (lv_at hl 0 rfl) ?_
              refine va_get (ci := 1) (v := .ref (q 26)) (C := RX1) (T := TX1) (N := 5) hx hb hts inlX1 hown hE.1 hP 21 rfl rfl 4 (by decide) (hts _ wB74) (fun _ h9 => h9) rfl dX1_setGone_89 ?_
              refine lv_iload_n hx hb dX1_setGone_92 rfl (lv_at hl 1 rfl) ?_
              obtain ⟨r93, h93r, hf⟩ := o_bs hf
              refine k_gov (va_runS (As := [.ref (q 22), .int 20, .ref (q 26), .int a2]) (rest := []) ⟨hx, hb, hml, hown, hts⟩ (zX1_mix l D cy sa (WX q cy s76.2 ++ rest) H.size 22 (q 22) 3 (gA s76.2 2) 26 (q 26) 3 (gA s76.2 6) 20 a2 r93 rfl rfl (by decide) h93r) (va_cwS 4 hts (gB_S wB524 wB525 wB32 wB526) rfl rfl rfl (by decide +kernel) ⟨Nat.le_of_ble_eq_true rfl, Nat.le_of_ble_eq_true rfl⟩) ⟨kP.blind, k_pre hP hD hS hE hA⟩ rfl rfl hl.1 rfl (lv_room (Nat.le_of_ble_eq_true rfl)) dX1_setGone_93 ⟨Nat.zero_le _, Nat.zero_le _⟩) hD hS hA (fun H locs hP hD hS => ?_)
              have hP : va_P D vwCl (WX q cy (sA s76.2 2 r93) ++ rest) H := hP
              have hD : va_D A (WX q cy (sA s76.2 2 r93) ++ rest) := hD
              refine lv_aload_n hx hb dX1_setGone_96 rfl (lv_at hl 0 rfl) ?_
              refine va_get (ci := 1) (v := .ref (q 26)) (C := RX1) (T := TX1) (N := 5) hx hb hts inlX1 hown hE.1 hP 21 rfl rfl 4 (by decide) (hts _ wB74) (fun _ h9 => h9) rfl dX1_setGone_97 ?_
              refine lv_iload hx hb dX1_setGone_100 (lv_at hl 3 rfl) ?_
              refine lv_aload_n hx hb dX1_setGone_102 rfl (lv_at hl 0 rfl) ?_
              refine va_get (ci := 1) (v := .ref (q 25)) (C := RX1) (T := TX1) (N := 5) hx hb hts inlX1 hown hE.1 hP 21 rfl rfl 3 (by decide) (hts _ wB73) (fun _ h9 => h9) rfl dX1_setGone_103 ?_
              refine lv_iload_n hx hb dX1_setGone_106 rfl (lv_at hl 1 rfl) ?_
              obtain ⟨r107, h107r, hf⟩ := o_bs hf
              refine k_gov (va_runS (As := [.ref (q 26), .int (20 - a2), .ref (q 25), .int a2]) (rest := []) ⟨hx, hb, hml, hown, hts⟩ (zX1_mix l D cy sa (WX q cy (sA s76.2 2 r93) ++ rest) H.size 26 (q 26) 3 (gA s76.2 6) 25 (q 25) 3 (gA s76.2 5) (20 - a2) a2 r107 rfl rfl (by decide) h107r) (va_cwS 4 hts (gB_S wB524 wB525 wB32 wB526) rfl rfl rfl (by decide +kernel) ⟨Nat.le_of_ble_eq_true rfl, Nat.le_of_ble_eq_true rfl⟩) ⟨kP.blind, k_pre hP hD hS hE hA⟩ rfl rfl hl.1 rfl (lv_room (Nat.le_of_ble_eq_true rfl)) dX1_setGone_107 ⟨Nat.zero_le _, Nat.zero_le _⟩) hD hS hA (fun H locs hP hD hS => ?_)
              have hQ : ∀ (xb : KS) (x0 : (Nat → Int64)) (xn : (Nat → Int64)), (WX q cy (sA xb 2 x0) ++ rest).set 26 (q 26, .inl (cy 1, 3, .inr (.inl xn))) = WX q cy (sA (sA xb 2 x0) 6 xn) ++ rest := fun _ _ _ => rfl
              have hP : va_P D vwCl (WX q cy (sA (sA s76.2 2 r93) 6 r107) ++ rest) H := k_wP (hQ s76.2 r93 r107) hP
              have hD : va_D A (WX q cy (sA (sA s76.2 2 r93) 6 r107) ++ rest) := k_wD (hQ s76.2 r93 r107) hD
              clear hQ
              refine lv_aload_n hx hb dX1_setGone_110 rfl (lv_at hl 0 rfl) ?_
              refine va_get (ci := 1) (v := .ref (q 25)) (C := RX1) (T := TX1) (N := 5) hx hb hts inlX1 hown hE.1 hP 21 rfl rfl 3 (by decide) (hts _ wB73) (fun _ h9 => h9) rfl dX1_setGone_111 ?_
              refine lv_iload hx hb dX1_setGone_114 (lv_at hl 3 rfl) ?_
              refine lv_aload_n hx hb dX1_setGone_116 rfl (lv_at hl 0 rfl) ?_
              refine va_get (ci := 1) (v := .ref (q 24)) (C := RX1) (T := TX1) (N := 5) hx hb hts inlX1 hown hE.1 hP 21 rfl rfl 2 (by decide) (hts _ wB72) (fun _ h9 => h9) rfl dX1_setGone_117 ?_
              refine lv_iload_n hx hb dX1_setGone_120 rfl (lv_at hl 1 rfl) ?_
              obtain ⟨r121, h121r, hf⟩ := o_bs hf
              refine k_gov (va_runS (As := [.ref (q 25), .int (20 - a2), .ref (q 24), .int a2]) (rest := []) ⟨hx, hb, hml, hown, hts⟩ (zX1_mix l D cy sa (WX q cy (sA (sA s76.2 2 r93) 6 r107) ++ rest) H.size 25 (q 25) 3 (gA s76.2 5) 24 (q 24) 3 (gA s76.2 4) (20 - a2) a2 r121 rfl rfl (by decide) h121r) (va_cwS 4 hts (gB_S wB524 wB525 wB32 wB526) rfl rfl rfl (by decide +kernel) ⟨Nat.le_of_ble_eq_true rfl, Nat.le_of_ble_eq_true rfl⟩) ⟨kP.blind, k_pre hP hD hS hE hA⟩ rfl rfl hl.1 rfl (lv_room (Nat.le_of_ble_eq_true rfl)) dX1_setGone_121 ⟨Nat.zero_le _, Nat.zero_le _⟩) hD hS hA (fun H locs hP hD hS => ?_)
              have hQ : ∀ (xb : KS) (x0 : (Nat → Int64)) (x1 : (Nat → Int64)) (xn : (Nat → Int64)), (WX q cy (sA (sA xb 2 x0) 6 x1) ++ rest).set 25 (q 25, .inl (cy 1, 3, .inr (.inl xn))) = WX q cy (sA (sA (sA xb 2 x0) 5 xn) 6 x1) ++ rest := fun _ _ _ _ => rfl
              have hP : va_P D vwCl (WX q cy (sA (sA (sA s76.2 2 r93) 5 r121) 6 r107) ++ rest) H := k_wP (hQ s76.2 r93 r107 r121) hP
              have hD : va_D A (WX q cy (sA (sA (sA s76.2 2 r93) 5 r121) 6 r107) ++ rest) := k_wD (hQ s76.2 r93 r107 r121) hD
              clear hQ
              refine lv_aload_n hx hb dX1_setGone_124 rfl (lv_at hl 0 rfl) ?_
              refine va_get (ci := 1) (v := .ref (q 24)) (C := RX1) (T := TX1) (N := 5) hx hb hts inlX1 hown hE.1 hP 21 rfl rfl 2 (by decide) (hts _ wB72) (fun _ h9 => h9) rfl dX1_setGone_125 ?_
              refine lv_iload hx hb dX1_setGone_128 (lv_at hl 3 rfl) ?_
              refine lv_aload_n hx hb dX1_setGone_130 rfl (lv_at hl 0 rfl) ?_
              refine va_get (ci := 1) (v := .ref (q 24)) (C := RX1) (T := TX1) (N := 5) hx hb hts inlX1 hown hE.1 hP 21 rfl rfl 2 (by decide) (hts _ wB72) (fun _ h9 => h9) rfl dX1_setGone_131 ?_
              refine lv_iconst (v := 0) hx hb dX1_setGone_134 (by decide) ?_
              obtain ⟨r135, h135r, hf⟩ := o_bs hf
              refine k_gov (va_runS (As := [.ref (q 24), .int (20 - a2), .ref (q 24), .int 0]) (rest := []) ⟨hx, hb, hml, hown, hts⟩ (zX1_mix_s l D cy sa (WX q cy (sA (sA (sA s76.2 2 r93) 5 r121) 6 r107) ++ rest) H.size 24 (q 24) 3 (gA s76.2 4) (20 - a2) 0 r135 rfl h135r) (va_cwS 4 hts (gB_S wB524 wB525 wB32 wB526) rfl rfl rfl (by decide +kernel) ⟨Nat.le_of_ble_eq_true rfl, Nat.le_of_ble_eq_true rfl⟩) ⟨kP.blind, k_pre hP hD hS hE hA⟩ rfl rfl hl.1 rfl (lv_room (Nat.le_of_ble_eq_true rfl)) dX1_setGone_135 ⟨Nat.zero_le _, Nat.zero_le _⟩) hD hS hA (fun H locs hP hD hS => ?_)
              have hQ : ∀ (xb : KS) (x0 : (Nat → Int64)) (x1 : (Nat → Int64)) (x2 : (Nat → Int64)) (xn : (Nat → Int64)), (WX q cy (sA (sA (sA xb 2 x0) 5 x1) 6 x2) ++ rest).set 24 (q 24, .inl (cy 1, 3, .inr (.inl xn))) = WX q cy (sA (sA (sA (sA xb 2 x0) 4 xn) 5 x1) 6 x2) ++ rest := fun _ _ _ _ _ => rfl
              have hP : va_P D vwCl (WX q cy (sA (sA (sA (sA s76.2 2 r93) 4 r135) 5 r121) 6 r107) ++ rest) H := k_wP (hQ s76.2 r93 r121 r107 r135) hP
              have hD : va_D A (WX q cy (sA (sA (sA (sA s76.2 2 r93) 4 r135) 5 r121) 6 r107) ++ rest) := k_wD (hQ s76.2 r93 r121 r107 r135) hD
              clear hQ
              refine lv_aload_n hx hb dX1_setGone_138 rfl (lv_at hl 0 rfl) ?_
              refine va_get (ci := 1) (v := .ref (q 23)) (C := RX1) (T := TX1) (N := 5) hx hb hts inlX1 hown hE.1 hP 21 rfl rfl 1 (by decide) (hts _ wB71) (fun _ h9 => h9) rfl dX1_setGone_139 ?_
              refine lv_bipush (v := 20) hx hb dX1_setGone_142 (by decide) ?_
              refine lv_aload_n hx hb dX1_setGone_144 rfl (lv_at hl 0 rfl) ?_
              refine va_get (ci := 1) (v := .ref (q 23)) (C := RX1) (T := TX1) (N := 5) hx hb hts inlX1 hown hE.1 hP 21 rfl rfl 1 (by decide) (hts _ wB71) (fun _ h9 => h9) rfl dX1_setGone_145 ?_
              refine lv_iconst (v := 0) hx hb dX1_setGone_148 (by decide) ?_
              obtain ⟨r149, h149r, hf⟩ := o_bs hf
              refine k_gov (va_runS (As := [.ref (q 23), .int 20, .ref (q 23), .int 0]) (rest := []) ⟨hx, hb, hml, hown, hts⟩ (zX1_mix_s l D cy sa (WX q cy (sA (sA (sA (sA s76.2 2 r93) 4 r135) 5 r121) 6 r107) ++ rest) H.size 23 (q 23) 3 (gA s76.2 3) 20 0 r149 rfl h149r) (va_cwS 4 hts (gB_S wB524 wB525 wB32 wB526) rfl rfl rfl (by decide +kernel) ⟨Nat.le_of_ble_eq_true rfl, Nat.le_of_ble_eq_true rfl⟩) ⟨kP.blind, k_pre hP hD hS hE hA⟩ rfl rfl hl.1 rfl (lv_room (Nat.le_of_ble_eq_true rfl)) dX1_setGone_149 ⟨Nat.zero_le _, Nat.zero_le _⟩) hD hS hA (fun H locs hP hD hS => ?_)
              have hQ : ∀ (xb : KS) (x0 : (Nat → Int64)) (x1 : (Nat → Int64)) (x2 : (Nat → Int64)) (x3 : (Nat → Int64)) (xn : (Nat → Int64)), (WX q cy (sA (sA (sA (sA xb 2 x0) 4 x1) 5 x2) 6 x3) ++ rest).set 23 (q 23, .inl (cy 1, 3, .inr (.inl xn))) = WX q cy (sA (sA (sA (sA (sA xb 2 x0) 3 xn) 4 x1) 5 x2) 6 x3) ++ rest := fun _ _ _ _ _ _ => rfl
              have hP : va_P D vwCl (WX q cy (sA (sA (sA (sA (sA s76.2 2 r93) 3 r149) 4 r135) 5 r121) 6 r107) ++ rest) H := k_wP (hQ s76.2 r93 r135 r121 r107 r149) hP
              have hD : va_D A (WX q cy (sA (sA (sA (sA (sA s76.2 2 r93) 3 r149) 4 r135) 5 r121) 6 r107) ++ rest) := k_wD (hQ s76.2 r93 r135 r121 r107 r149) hD
              clear hQ
              refine lv_iinc (v := (s76.1 + 1)) (lv' := [(5, .int (s76.1 + 1)), (0, .ref (q 21)), (2, .int a2), (3, .int a3), (4, .int (20 - a2))]) hx hb dX1_setGone_152 hl (k := 4) rfl (by rfl) (by decide) rfl (fun ls hl => ?_)
              refine lv_goto (tgt := 76) hx hb dX1_setGone_155 (by decide) ?_
              obtain rfl := o_ret hf
              exact ih76 _ _ (lpK_r h76z) _ _ _ hP hD hS (lv_sub hl [1, 2, 3, 4, 0] rfl) K76_0
        obtain ⟨e76, h76q, hf⟩ := o_bs hf
        obtain ⟨n76v, h76q⟩ := lpF_ex h76q
        refine L76 n76v _ e76 h76q _ _ _ hP hD hS (lv_sub hl [2, 4, 5, 1, 0] rfl) ?_
        intro H locs ls hP hD hS hl
        refine lv_aload_n hx hb dX1_setGone_158 rfl (lv_at hl 0 rfl) ?_
        refine lv_iconst (v := 2) hx hb dX1_setGone_159 (by decide) ?_
        refine lv_iconst (v := 2) hx hb dX1_setGone_160 (by decide) ?_
        refine lv_iload_n hx hb dX1_setGone_161 rfl (lv_at hl 1 rfl) ?_
        refine lv_imul hx hb dX1_setGone_162 ?_
        obtain ⟨r163, h163r, hf⟩ := o_bs hf
        refine k_gov (va_runV (As := [.int 2, .int (2 * a3)]) (rest := []) ⟨hx, hb, hml, hown, hts⟩ (zX1_lower l D cy sa q rest H.size e76 2 (2 * a3) r163 h163r) (cwV 2 hts (gB_V wB527 wB528 wB529 wB32 wB530) rfl rfl rfl (by decide +kernel) ⟨Nat.le_of_ble_eq_true rfl, Nat.le_of_ble_eq_true rfl⟩) ⟨kP.blind, k_recv hE hP (ci := 1) (q0 := 21) rfl rfl, k_pre hP hD hS hE hA⟩ rfl rfl hl.1 rfl (lv_room (Nat.le_of_ble_eq_true rfl)) dX1_setGone_163 ⟨Nat.zero_le _, Nat.zero_le _⟩) hD hS hA (fun H locs hP hD hS => ?_)
        refine lv_aload_n hx hb dX1_setGone_166 rfl (lv_at hl 0 rfl) ?_
        refine lv_iconst (v := 5) hx hb dX1_setGone_167 (by decide) ?_
        refine lv_iload_n hx hb dX1_setGone_168 rfl (lv_at hl 1 rfl) ?_
        obtain ⟨r169, h169r, hf⟩ := o_bs hf
        refine k_gov (va_runV (As := [.int 5, .int a3]) (rest := []) ⟨hx, hb, hml, hown, hts⟩ (zX1_lower l D cy sa q rest H.size r163 5 a3 r169 h169r) (cwV 2 hts (gB_V wB527 wB528 wB529 wB32 wB530) rfl rfl rfl (by decide +kernel) ⟨Nat.le_of_ble_eq_true rfl, Nat.le_of_ble_eq_true rfl⟩) ⟨kP.blind, k_recv hE hP (ci := 1) (q0 := 21) rfl rfl, k_pre hP hD hS hE hA⟩ rfl rfl hl.1 rfl (lv_room (Nat.le_of_ble_eq_true rfl)) dX1_setGone_169 ⟨Nat.zero_le _, Nat.zero_le _⟩) hD hS hA (fun H locs hP hD hS => ?_)
        obtain rfl := o_ret hf
        exact k_vret hx hb hr hP hD hS (Nat.zero_le _) (Nat.zero_le _) hlocks dX1_setGone_172
  · have hf := o_ip c6 hf
    refine lv_lconst (v := 1) hx hb dX1_setGone_9 (by decide) ?_
    refine lv_goto (tgt := 14) hx hb dX1_setGone_10 (by decide) ?_
    obtain ⟨r14, h14r, hf⟩ := o_bs hf
    refine k_gov (va_runS (As := [.ref (q 24), .long 1]) (rest := []) ⟨hx, hb, hml, hown, hts⟩ (zX1_write l D cy sa (WX q cy u ++ rest) H.size 24 (q 24) 3 (gA u 4) 1 r14 rfl h14r) (va_cwS 2 hts (gB_S wB75 wB76 wB32 wB77) rfl rfl rfl (by decide +kernel) ⟨Nat.le_of_ble_eq_true rfl, Nat.le_of_ble_eq_true rfl⟩) ⟨kP.blind, k_pre hP hD hS hE hA⟩ rfl rfl hl.1 rfl (lv_room (Nat.le_of_ble_eq_true rfl)) dX1_setGone_14 ⟨Nat.zero_le _, Nat.zero_le _⟩) hD hS hA (fun H locs hP hD hS => ?_)
    have hP : va_P D vwCl (WX q cy (sA u 4 r14) ++ rest) H := hP
    have hD : va_D A (WX q cy (sA u 4 r14) ++ rest) := hD
    refine lv_aload_n hx hb dX1_setGone_17 rfl (lv_at hl 0 rfl) ?_
    refine va_get (ci := 1) (v := .ref (q 25)) (C := RX1) (T := TX1) (N := 5) hx hb hts inlX1 hown hE.1 hP 21 rfl rfl 3 (by decide) (hts _ wB73) (fun _ h9 => h9) rfl dX1_setGone_18 ?_
    refine lv_iload_n hx hb dX1_setGone_21 rfl (lv_at hl 1 rfl) ?_
    refine lv_iconst (v := 2) hx hb dX1_setGone_22 (by decide) ?_
    refine lv_icmp_ne (tgt := 30) hx hb dX1_setGone_23 (by decide) (fun c23 => ?_) (fun c23 => ?_)
    · have hf := o_in c23 hf
      refine lv_lconst (v := 0) hx hb dX1_setGone_30 (by decide) ?_
      obtain ⟨r31, h31r, hf⟩ := o_bs hf
      refine k_gov (va_runS (As := [.ref (q 25), .long 0]) (rest := []) ⟨hx, hb, hml, hown, hts⟩ (zX1_write l D cy sa (WX q cy (sA u 4 r14) ++ rest) H.size 25 (q 25) 3 (gA u 5) 0 r31 rfl h31r) (va_cwS 2 hts (gB_S wB75 wB76 wB32 wB77) rfl rfl rfl (by decide +kernel) ⟨Nat.le_of_ble_eq_true rfl, Nat.le_of_ble_eq_true rfl⟩) ⟨kP.blind, k_pre hP hD hS hE hA⟩ rfl rfl hl.1 rfl (lv_room (Nat.le_of_ble_eq_true rfl)) dX1_setGone_31 ⟨Nat.zero_le _, Nat.zero_le _⟩) hD hS hA (fun H locs hP hD hS => ?_)
      have hQ : ∀ (xb : KS) (x0 : (Nat → Int64)) (xn : (Nat → Int64)), (WX q cy (sA xb 4 x0) ++ rest).set 25 (q 25, .inl (cy 1, 3, .inr (.inl xn))) = WX q cy (sA (sA xb 4 x0) 5 xn) ++ rest := fun _ _ _ => rfl
      have hP : va_P D vwCl (WX q cy (sA (sA u 4 r14) 5 r31) ++ rest) H := k_wP (hQ u r14 r31) hP
      have hD : va_D A (WX q cy (sA (sA u 4 r14) 5 r31) ++ rest) := k_wD (hQ u r14 r31) hD
      clear hQ
      refine lv_aload_n hx hb dX1_setGone_34 rfl (lv_at hl 0 rfl) ?_
      refine va_get (ci := 1) (v := .ref (q 26)) (C := RX1) (T := TX1) (N := 5) hx hb hts inlX1 hown hE.1 hP 21 rfl rfl 4 (by decide) (hts _ wB74) (fun _ h9 => h9) rfl dX1_setGone_35 ?_
      refine lv_iload_n hx hb dX1_setGone_38 rfl (lv_at hl 1 rfl) ?_
      refine lv_iconst (v := 3) hx hb dX1_setGone_39 (by decide) ?_
      refine lv_icmp_ne (tgt := 47) hx hb dX1_setGone_40 (by decide) (fun c40 => ?_) (fun c40 => ?_)
      · have hf := o_in c40 hf
        refine lv_lconst (v := 0) hx hb dX1_setGone_47 (by decide) ?_
        obtain ⟨r48, h48r, hf⟩ := o_bs hf
        refine k_gov (va_runS (As := [.ref (q 26), .long 0]) (rest := []) ⟨hx, hb, hml, hown, hts⟩ (zX1_write l D cy sa (WX q cy (sA (sA u 4 r14) 5 r31) ++ rest) H.size 26 (q 26) 3 (gA u 6) 0 r48 rfl h48r) (va_cwS 2 hts (gB_S wB75 wB76 wB32 wB77) rfl rfl rfl (by decide +kernel) ⟨Nat.le_of_ble_eq_true rfl, Nat.le_of_ble_eq_true rfl⟩) ⟨kP.blind, k_pre hP hD hS hE hA⟩ rfl rfl hl.1 rfl (lv_room (Nat.le_of_ble_eq_true rfl)) dX1_setGone_48 ⟨Nat.zero_le _, Nat.zero_le _⟩) hD hS hA (fun H locs hP hD hS => ?_)
        have hQ : ∀ (xb : KS) (x0 : (Nat → Int64)) (x1 : (Nat → Int64)) (xn : (Nat → Int64)), (WX q cy (sA (sA xb 4 x0) 5 x1) ++ rest).set 26 (q 26, .inl (cy 1, 3, .inr (.inl xn))) = WX q cy (sA (sA (sA xb 4 x0) 5 x1) 6 xn) ++ rest := fun _ _ _ _ => rfl
        have hP : va_P D vwCl (WX q cy (sA (sA (sA u 4 r14) 5 r31) 6 r48) ++ rest) H := k_wP (hQ u r14 r31 r48) hP
        have hD : va_D A (WX q cy (sA (sA (sA u 4 r14) 5 r31) 6 r48) ++ rest) := k_wD (hQ u r14 r31 r48) hD
        clear hQ
        refine lv_aload_n hx hb dX1_setGone_51 rfl (lv_at hl 0 rfl) ?_
        refine va_get (ci := 1) (v := .ref (q 22)) (C := RX1) (T := TX1) (N := 5) hx hb hts inlX1 hown hE.1 hP 21 rfl rfl 0 (by decide) (hts _ wB70) (fun _ h9 => h9) rfl dX1_setGone_52 ?_
        refine lv_lconst (v := 0) hx hb dX1_setGone_55 (by decide) ?_
        obtain ⟨r56, h56r, hf⟩ := o_bs hf
        refine k_gov (va_runS (As := [.ref (q 22), .long 0]) (rest := []) ⟨hx, hb, hml, hown, hts⟩ (zX1_write l D cy sa (WX q cy (sA (sA (sA u 4 r14) 5 r31) 6 r48) ++ rest) H.size 22 (q 22) 3 (gA u 2) 0 r56 rfl h56r) (va_cwS 2 hts (gB_S wB75 wB76 wB32 wB77) rfl rfl rfl (by decide +kernel) ⟨Nat.le_of_ble_eq_true rfl, Nat.le_of_ble_eq_true rfl⟩) ⟨kP.blind, k_pre hP hD hS hE hA⟩ rfl rfl hl.1 rfl (lv_room (Nat.le_of_ble_eq_true rfl)) dX1_setGone_56 ⟨Nat.zero_le _, Nat.zero_le _⟩) hD hS hA (fun H locs hP hD hS => ?_)
        have hQ : ∀ (xb : KS) (x0 : (Nat → Int64)) (x1 : (Nat → Int64)) (x2 : (Nat → Int64)) (xn : (Nat → Int64)), (WX q cy (sA (sA (sA xb 4 x0) 5 x1) 6 x2) ++ rest).set 22 (q 22, .inl (cy 1, 3, .inr (.inl xn))) = WX q cy (sA (sA (sA (sA xb 2 xn) 4 x0) 5 x1) 6 x2) ++ rest := fun _ _ _ _ _ => rfl
        have hP : va_P D vwCl (WX q cy (sA (sA (sA (sA u 2 r56) 4 r14) 5 r31) 6 r48) ++ rest) H := k_wP (hQ u r14 r31 r48 r56) hP
        have hD : va_D A (WX q cy (sA (sA (sA (sA u 2 r56) 4 r14) 5 r31) 6 r48) ++ rest) := k_wD (hQ u r14 r31 r48 r56) hD
        clear hQ
        refine lv_aload_n hx hb dX1_setGone_59 rfl (lv_at hl 0 rfl) ?_
        refine va_get (ci := 1) (v := .ref (q 23)) (C := RX1) (T := TX1) (N := 5) hx hb hts inlX1 hown hE.1 hP 21 rfl rfl 1 (by decide) (hts _ wB71) (fun _ h9 => h9) rfl dX1_setGone_60 ?_
        refine lv_lconst (v := 1) hx hb dX1_setGone_63 (by decide) ?_
        obtain ⟨r64, h64r, hf⟩ := o_bs hf
        refine k_gov (va_runS (As := [.ref (q 23), .long 1]) (rest := []) ⟨hx, hb, hml, hown, hts⟩ (zX1_write l D cy sa (WX q cy (sA (sA (sA (sA u 2 r56) 4 r14) 5 r31) 6 r48) ++ rest) H.size 23 (q 23) 3 (gA u 3) 1 r64 rfl h64r) (va_cwS 2 hts (gB_S wB75 wB76 wB32 wB77) rfl rfl rfl (by decide +kernel) ⟨Nat.le_of_ble_eq_true rfl, Nat.le_of_ble_eq_true rfl⟩) ⟨kP.blind, k_pre hP hD hS hE hA⟩ rfl rfl hl.1 rfl (lv_room (Nat.le_of_ble_eq_true rfl)) dX1_setGone_64 ⟨Nat.zero_le _, Nat.zero_le _⟩) hD hS hA (fun H locs hP hD hS => ?_)
        have hQ : ∀ (xb : KS) (x0 : (Nat → Int64)) (x1 : (Nat → Int64)) (x2 : (Nat → Int64)) (x3 : (Nat → Int64)) (xn : (Nat → Int64)), (WX q cy (sA (sA (sA (sA xb 2 x0) 4 x1) 5 x2) 6 x3) ++ rest).set 23 (q 23, .inl (cy 1, 3, .inr (.inl xn))) = WX q cy (sA (sA (sA (sA (sA xb 2 x0) 3 xn) 4 x1) 5 x2) 6 x3) ++ rest := fun _ _ _ _ _ _ => rfl
        have hP : va_P D vwCl (WX q cy (sA (sA (sA (sA (sA u 2 r56) 3 r64) 4 r14) 5 r31) 6 r48) ++ rest) H := k_wP (hQ u r56 r14 r31 r48 r64) hP
        have hD : va_D A (WX q cy (sA (sA (sA (sA (sA u 2 r56) 3 r64) 4 r14) 5 r31) 6 r48) ++ rest) := k_wD (hQ u r56 r14 r31 r48 r64) hD
        clear hQ
        refine lv_bipush (v := 20) hx hb dX1_setGone_67 (by decide) ?_
        refine lv_iload_n hx hb dX1_setGone_69 rfl (lv_at hl 2 rfl) ?_
        refine lv_isub hx hb dX1_setGone_70 ?_
        refine lv_istore (lv' := [(4, .int (20 - a2)), (0, .ref (q 21)), (1, .int a1), (2, .int a2), (3, .int a3)]) hx hb dX1_setGone_71 hl (by decide) rfl (fun ls hl => ?_)
        refine lv_iconst (v := 0) hx hb dX1_setGone_73 (by decide) ?_
        refine lv_istore (lv' := [(5, .int 0), (4, .int (20 - a2)), (0, .ref (q 21)), (1, .int a1), (2, .int a2), (3, .int a3)]) hx hb dX1_setGone_74 hl (by decide) rfl (fun ls hl => ?_)
        have L76 : ∀ (n76v : Nat) (s76 : Int32 × KS) (e76 : KS), lpO (mX1_setGone_s76 a2 a3 (20 - a2)) n76v s76 = some e76 → ∀ (H : Heap) (locs : List Loc) (ls : Array Slot), va_P D vwCl (WX q cy s76.2 ++ rest) H → va_D A (WX q cy s76.2 ++ rest) → va_S A s.heap H locs → lv_has ls 6 [(0, .ref (q 21)), (2, .int a2), (3, .int a3), (4, .int (20 - a2)), (5, .int s76.1)] → (∀ (H : Heap) (locs : List Loc) (ls : Array Slot), va_P D vwCl (WX q cy e76 ++ rest) H → va_D A (WX q cy e76 ++ rest) → va_S A s.heap H locs → lv_has ls 6 [(0, .ref (q 21)), (3, .int a3)] → W p l e rmX1_setGone s m ([.ref (q 21), .int a1, .int a2, .int a3] : List Value).toArray below meth c H locs 0 0 (MQ below (kQv D A (WX q cy res ++ rest)) ([.ref (q 21), .int a1, .int a2, .int a3] : List Value).toArray s 0 0 A) (F0 m 158 ls [])) → W p l e rmX1_setGone s m ([.ref (q 21), .int a1, .int a2, .int a3] : List Value).toArray below meth c H locs 0 0 (MQ below (kQv D A (WX q cy res ++ rest)) ([.ref (q 21), .int a1, .int a2, .int a3] : List Value).toArray s 0 0 A) (F0 m 76 ls []) := by
          intro n76v
          induction n76v with
          | zero => intro s76 e76 h; exact (lpO_z h).elim
          | succ n76v ih76 =>
            intro s76 e76 h76z H locs ls hP hD hS hl K76_0
            obtain ⟨x76, hf, h76z⟩ := lpO_s h76z
            unfold mX1_setGone_s76 at hf
            refine lv_iload hx hb dX1_setGone_76 (lv_at hl 4 rfl) ?_
            refine lv_iload_n hx hb dX1_setGone_78 rfl (lv_at hl 2 rfl) ?_
            refine lv_icmp_ge (tgt := 158) hx hb dX1_setGone_79 (by decide) (fun c79 => ?_) (fun c79 => ?_)
            · have hf := o_ip c79 hf
              obtain rfl := o_ret hf
              obtain rfl := lpK_l h76z
              exact K76_0 _ _ _ hP hD hS (lv_sub hl [0, 2] rfl)
            · have hf := o_in c79 hf
              refine lv_aload_n hx hb dX1_setGone_82 rfl (lv_at hl 0 rfl) ?_
              refine va_get (ci := 1) (v := .ref (q 22)) (C := RX1) (T := TX1) (N := 5) hx hb hts inlX1 hown hE.1 hP 21 rfl rfl 0 (by decide) (hts _ wB70) (fun _ h9 => h9) rfl dX1_setGone_83 ?_
              refine lv_bipush (v := 20) hx hb dX1_setGone_86 (by decide) ?_
              refine lv_aload_n hx hb dX1_setGone_88 rfl (lv_at hl 0 rfl) ?_
              refine va_get (ci := 1) (v := .ref (q 26)) (C := RX1) (T := TX1) (N := 5) hx hb hts inlX1 hown hE.1 hP 21 rfl rfl 4 (by decide) (hts _ wB74) (fun _ h9 => h9) rfl dX1_setGone_89 ?_
              refine lv_iload_n hx hb dX1_setGone_92 rfl (lv_at hl 1 rfl) ?_
              obtain ⟨r93, h93r, hf⟩ := o_bs hf
              refine k_gov (va_runS (As := [.ref (q 22), .int 20, .ref (q 26), .int a2]) (rest := []) ⟨hx, hb, hml, hown, hts⟩ (zX1_mix l D cy sa (WX q cy s76.2 ++ rest) H.size 22 (q 22) 3 (gA s76.2 2) 26 (q 26) 3 (gA s76.2 6) 20 a2 r93 rfl rfl (by decide) h93r) (va_cwS 4 hts (gB_S wB524 wB525 wB32 wB526) rfl rfl rfl (by decide +kernel) ⟨Nat.le_of_ble_eq_true rfl, Nat.le_of_ble_eq_true rfl⟩) ⟨kP.blind, k_pre hP hD hS hE hA⟩ rfl rfl hl.1 rfl (lv_room (Nat.le_of_ble_eq_true rfl)) dX1_setGone_93 ⟨Nat.zero_le _, Nat.zero_le _⟩) hD hS hA (fun H locs hP hD hS => ?_)
              have hP : va_P D vwCl (WX q cy (sA s76.2 2 r93) ++ rest) H := hP
              have hD : va_D A (WX q cy (sA s76.2 2 r93) ++ rest) := hD
              refine lv_aload_n hx hb dX1_setGone_96 rfl (lv_at hl 0 rfl) ?_
              refine va_get (ci := 1) (v := .ref (q 26)) (C := RX1) (T := TX1) (N := 5) hx hb hts inlX1 hown hE.1 hP 21 rfl rfl 4 (by decide) (hts _ wB74) (fun _ h9 => h9) rfl dX1_setGone_97 ?_
              refine lv_iload hx hb dX1_setGone_100 (lv_at hl 3 rfl) ?_
              refine lv_aload_n hx hb dX1_setGone_102 rfl (lv_at hl 0 rfl) ?_
              refine va_get (ci := 1) (v := .ref (q 25)) (C := RX1) (T := TX1) (N := 5) hx hb hts inlX1 hown hE.1 hP 21 rfl rfl 3 (by decide) (hts _ wB73) (fun _ h9 => h9) rfl dX1_setGone_103 ?_
              refine lv_iload_n hx hb dX1_setGone_106 rfl (lv_at hl 1 rfl) ?_
              obtain ⟨r107, h107r, hf⟩ := o_bs hf
              refine k_gov (va_runS (As := [.ref (q 26), .int (20 - a2), .ref (q 25), .int a2]) (rest := []) ⟨hx, hb, hml, hown, hts⟩ (zX1_mix l D cy sa (WX q cy (sA s76.2 2 r93) ++ rest) H.size 26 (q 26) 3 (gA s76.2 6) 25 (q 25) 3 (gA s76.2 5) (20 - a2) a2 r107 rfl rfl (by decide) h107r) (va_cwS 4 hts (gB_S wB524 wB525 wB32 wB526) rfl rfl rfl (by decide +kernel) ⟨Nat.le_of_ble_eq_true rfl, Nat.le_of_ble_eq_true rfl⟩) ⟨kP.blind, k_pre hP hD hS hE hA⟩ rfl rfl hl.1 rfl (lv_room (Nat.le_of_ble_eq_true rfl)) dX1_setGone_107 ⟨Nat.zero_le _, Nat.zero_le _⟩) hD hS hA (fun H locs hP hD hS => ?_)
              have hQ : ∀ (xb : KS) (x0 : (Nat → Int64)) (xn : (Nat → Int64)), (WX q cy (sA xb 2 x0) ++ rest).set 26 (q 26, .inl (cy 1, 3, .inr (.inl xn))) = WX q cy (sA (sA xb 2 x0) 6 xn) ++ rest := fun _ _ _ => rfl
              have hP : va_P D vwCl (WX q cy (sA (sA s76.2 2 r93) 6 r107) ++ rest) H := k_wP (hQ s76.2 r93 r107) hP
              have hD : va_D A (WX q cy (sA (sA s76.2 2 r93) 6 r107) ++ rest) := k_wD (hQ s76.2 r93 r107) hD
              clear hQ
              refine lv_aload_n hx hb dX1_setGone_110 rfl (lv_at hl 0 rfl) ?_
              refine va_get (ci := 1) (v := .ref (q 25)) (C := RX1) (T := TX1) (N := 5) hx hb hts inlX1 hown hE.1 hP 21 rfl rfl 3 (by decide) (hts _ wB73) (fun _ h9 => h9) rfl dX1_setGone_111 ?_
              refine lv_iload hx hb dX1_setGone_114 (lv_at hl 3 rfl) ?_
              refine lv_aload_n hx hb dX1_setGone_116 rfl (lv_at hl 0 rfl) ?_
              refine va_get (ci := 1) (v := .ref (q 24)) (C := RX1) (T := TX1) (N := 5) hx hb hts inlX1 hown hE.1 hP 21 rfl rfl 2 (by decide) (hts _ wB72) (fun _ h9 => h9) rfl dX1_setGone_117 ?_
              refine lv_iload_n hx hb dX1_setGone_120 rfl (lv_at hl 1 rfl) ?_
              obtain ⟨r121, h121r, hf⟩ := o_bs hf
              refine k_gov (va_runS (As := [.ref (q 25), .int (20 - a2), .ref (q 24), .int a2]) (rest := []) ⟨hx, hb, hml, hown, hts⟩ (zX1_mix l D cy sa (WX q cy (sA (sA s76.2 2 r93) 6 r107) ++ rest) H.size 25 (q 25) 3 (gA s76.2 5) 24 (q 24) 3 (gA s76.2 4) (20 - a2) a2 r121 rfl rfl (by decide) h121r) (va_cwS 4 hts (gB_S wB524 wB525 wB32 wB526) rfl rfl rfl (by decide +kernel) ⟨Nat.le_of_ble_eq_true rfl, Nat.le_of_ble_eq_true rfl⟩) ⟨kP.blind, k_pre hP hD hS hE hA⟩ rfl rfl hl.1 rfl (lv_room (Nat.le_of_ble_eq_true rfl)) dX1_setGone_121 ⟨Nat.zero_le _, Nat.zero_le _⟩) hD hS hA (fun H locs hP hD hS => ?_)
              have hQ : ∀ (xb : KS) (x0 : (Nat → Int64)) (x1 : (Nat → Int64)) (xn : (Nat → Int64)), (WX q cy (sA (sA xb 2 x0) 6 x1) ++ rest).set 25 (q 25, .inl (cy 1, 3, .inr (.inl xn))) = WX q cy (sA (sA (sA xb 2 x0) 5 xn) 6 x1) ++ rest := fun _ _ _ _ => rfl
              have hP : va_P D vwCl (WX q cy (sA (sA (sA s76.2 2 r93) 5 r121) 6 r107) ++ rest) H := k_wP (hQ s76.2 r93 r107 r121) hP
              have hD : va_D A (WX q cy (sA (sA (sA s76.2 2 r93) 5 r121) 6 r107) ++ rest) := k_wD (hQ s76.2 r93 r107 r121) hD
              clear hQ
              refine lv_aload_n hx hb dX1_setGone_124 rfl (lv_at hl 0 rfl) ?_
              refine va_get (ci := 1) (v := .ref (q 24)) (C := RX1) (T := TX1) (N := 5) hx hb hts inlX1 hown hE.1 hP 21 rfl rfl 2 (by decide) (hts _ wB72) (fun _ h9 => h9) rfl dX1_setGone_125 ?_
              refine lv_iload hx hb dX1_setGone_128 (lv_at hl 3 rfl) ?_
              refine lv_aload_n hx hb dX1_setGone_130 rfl (lv_at hl 0 rfl) ?_
              refine va_get (ci := 1) (v := .ref (q 24)) (C := RX1) (T := TX1) (N := 5) hx hb hts inlX1 hown hE.1 hP 21 rfl rfl 2 (by decide) (hts _ wB72) (fun _ h9 => h9) rfl dX1_setGone_131 ?_
              refine lv_iconst (v := 0) hx hb dX1_setGone_134 (by decide) ?_
              obtain ⟨r135, h135r, hf⟩ := o_bs hf
              refine k_gov (va_runS (As := [.ref (q 24), .int (20 - a2), .ref (q 24), .int 0]) (rest := []) ⟨hx, hb, hml, hown, hts⟩ (zX1_mix_s l D cy sa (WX q cy (sA (sA (sA s76.2 2 r93) 5 r121) 6 r107) ++ rest) H.size 24 (q 24) 3 (gA s76.2 4) (20 - a2) 0 r135 rfl h135r) (va_cwS 4 hts (gB_S wB524 wB525 wB32 wB526) rfl rfl rfl (by decide +kernel) ⟨Nat.le_of_ble_eq_true rfl, Nat.le_of_ble_eq_true rfl⟩) ⟨kP.blind, k_pre hP hD hS hE hA⟩ rfl rfl hl.1 rfl (lv_room (Nat.le_of_ble_eq_true rfl)) dX1_setGone_135 ⟨Nat.zero_le _, Nat.zero_le _⟩) hD hS hA (fun H locs hP hD hS => ?_)
              have hQ : ∀ (xb : KS) (x0 : (Nat → Int64)) (x1 : (Nat → Int64)) (x2 : (Nat → Int64)) (xn : (Nat → Int64)), (WX q cy (sA (sA (sA xb 2 x0) 5 x1) 6 x2) ++ rest).set 24 (q 24, .inl (cy 1, 3, .inr (.inl xn))) = WX q cy (sA (sA (sA (sA xb 2 x0) 4 xn) 5 x1) 6 x2) ++ rest := fun _ _ _ _ _ => rfl
              have hP : va_P D vwCl (WX q cy (sA (sA (sA (sA s76.2 2 r93) 4 r135) 5 r121) 6 r107) ++ rest) H := k_wP (hQ s76.2 r93 r121 r107 r135) hP
              have hD : va_D A (WX q cy (sA (sA (sA (sA s76.2 2 r93) 4 r135) 5 r121) 6 r107) ++ rest) := k_wD (hQ s76.2 r93 r121 r107 r135) hD
              clear hQ
              refine lv_aload_n hx hb dX1_setGone_138 rfl (lv_at hl 0 rfl) ?_
              refine va_get (ci := 1) (v := .ref (q 23)) (C := RX1) (T := TX1) (N := 5) hx hb hts inlX1 hown hE.1 hP 21 rfl rfl 1 (by decide) (hts _ wB71) (fun _ h9 => h9) rfl dX1_setGone_139 ?_
              refine lv_bipush (v := 20) hx hb dX1_setGone_142 (by decide) ?_
              refine lv_aload_n hx hb dX1_setGone_144 rfl (lv_at hl 0 rfl) ?_
              refine va_get (ci := 1) (v := .ref (q 23)) (C := RX1) (T := TX1) (N := 5) hx hb hts inlX1 hown hE.1 hP 21 rfl rfl 1 (by decide) (hts _ wB71) (fun _ h9 => h9) rfl dX1_setGone_145 ?_
              refine lv_iconst (v := 0) hx hb dX1_setGone_148 (by decide) ?_
              obtain ⟨r149, h149r, hf⟩ := o_bs hf
              refine k_gov (va_runS (As := [.ref (q 23), .int 20, .ref (q 23), .int 0]) (rest := []) ⟨hx, hb, hml, hown, hts⟩ (zX1_mix_s l D cy sa (WX q cy (sA (sA (sA (sA s76.2 2 r93) 4 r135) 5 r121) 6 r107) ++ rest) H.size 23 (q 23) 3 (gA s76.2 3) 20 0 r149 rfl h149r) (va_cwS 4 hts (gB_S wB524 wB525 wB32 wB526) rfl rfl rfl (by decide +kernel) ⟨Nat.le_of_ble_eq_true rfl, Nat.le_of_ble_eq_true rfl⟩) ⟨kP.blind, k_pre hP hD hS hE hA⟩ rfl rfl hl.1 rfl (lv_room (Nat.le_of_ble_eq_true rfl)) dX1_setGone_149 ⟨Nat.zero_le _, Nat.zero_le _⟩) hD hS hA (fun H locs hP hD hS => ?_)
              have hQ : ∀ (xb : KS) (x0 : (Nat → Int64)) (x1 : (Nat → Int64)) (x2 : (Nat → Int64)) (x3 : (Nat → Int64)) (xn : (Nat → Int64)), (WX q cy (sA (sA (sA (sA xb 2 x0) 4 x1) 5 x2) 6 x3) ++ rest).set 23 (q 23, .inl (cy 1, 3, .inr (.inl xn))) = WX q cy (sA (sA (sA (sA (sA xb 2 x0) 3 xn) 4 x1) 5 x2) 6 x3) ++ rest := fun _ _ _ _ _ _ => rfl
              have hP : va_P D vwCl (WX q cy (sA (sA (sA (sA (sA s76.2 2 r93) 3 r149) 4 r135) 5 r121) 6 r107) ++ rest) H := k_wP (hQ s76.2 r93 r135 r121 r107 r149) hP
              have hD : va_D A (WX q cy (sA (sA (sA (sA (sA s76.2 2 r93) 3 r149) 4 r135) 5 r121) 6 r107) ++ rest) := k_wD (hQ s76.2 r93 r135 r121 r107 r149) hD
              clear hQ
              refine lv_iinc (v := (s76.1 + 1)) (lv' := [(5, .int (s76.1 + 1)), (0, .ref (q 21)), (2, .int a2), (3, .int a3), (4, .int (20 - a2))]) hx hb dX1_setGone_152 hl (k := 4) rfl (by rfl) (by decide) rfl (fun ls hl => ?_)
              refine lv_goto (tgt := 76) hx hb dX1_setGone_155 (by decide) ?_
              obtain rfl := o_ret hf
              exact ih76 _ _ (lpK_r h76z) _ _ _ hP hD hS (lv_sub hl [1, 2, 3, 4, 0] rfl) K76_0
        obtain ⟨e76, h76q, hf⟩ := o_bs hf
        obtain ⟨n76v, h76q⟩ := lpF_ex h76q
        refine L76 n76v _ e76 h76q _ _ _ hP hD hS (lv_sub hl [2, 4, 5, 1, 0] rfl) ?_
        intro H locs ls hP hD hS hl
        refine lv_aload_n hx hb dX1_setGone_158 rfl (lv_at hl 0 rfl) ?_
        refine lv_iconst (v := 2) hx hb dX1_setGone_159 (by decide) ?_
        refine lv_iconst (v := 2) hx hb dX1_setGone_160 (by decide) ?_
        refine lv_iload_n hx hb dX1_setGone_161 rfl (lv_at hl 1 rfl) ?_
        refine lv_imul hx hb dX1_setGone_162 ?_
        obtain ⟨r163, h163r, hf⟩ := o_bs hf
        refine k_gov (va_runV (As := [.int 2, .int (2 * a3)]) (rest := []) ⟨hx, hb, hml, hown, hts⟩ (zX1_lower l D cy sa q rest H.size e76 2 (2 * a3) r163 h163r) (cwV 2 hts (gB_V wB527 wB528 wB529 wB32 wB530) rfl rfl rfl (by decide +kernel) ⟨Nat.le_of_ble_eq_true rfl, Nat.le_of_ble_eq_true rfl⟩) ⟨kP.blind, k_recv hE hP (ci := 1) (q0 := 21) rfl rfl, k_pre hP hD hS hE hA⟩ rfl rfl hl.1 rfl (lv_room (Nat.le_of_ble_eq_true rfl)) dX1_setGone_163 ⟨Nat.zero_le _, Nat.zero_le _⟩) hD hS hA (fun H locs hP hD hS => ?_)
        refine lv_aload_n hx hb dX1_setGone_166 rfl (lv_at hl 0 rfl) ?_
        refine lv_iconst (v := 5) hx hb dX1_setGone_167 (by decide) ?_
        refine lv_iload_n hx hb dX1_setGone_168 rfl (lv_at hl 1 rfl) ?_
        obtain ⟨r169, h169r, hf⟩ := o_bs hf
        refine k_gov (va_runV (As := [.int 5, .int a3]) (rest := []) ⟨hx, hb, hml, hown, hts⟩ (zX1_lower l D cy sa q rest H.size r163 5 a3 r169 h169r) (cwV 2 hts (gB_V wB527 wB528 wB529 wB32 wB530) rfl rfl rfl (by decide +kernel) ⟨Nat.le_of_ble_eq_true rfl, Nat.le_of_ble_eq_true rfl⟩) ⟨kP.blind, k_recv hE hP (ci := 1) (q0 := 21) rfl rfl, k_pre hP hD hS hE hA⟩ rfl rfl hl.1 rfl (lv_room (Nat.le_of_ble_eq_true rfl)) dX1_setGone_169 ⟨Nat.zero_le _, Nat.zero_le _⟩) hD hS hA (fun H locs hP hD hS => ?_)
        obtain rfl := o_ret hf
        exact k_vret hx hb hr hP hD hS (Nat.zero_le _) (Nat.zero_le _) hlocks dX1_setGone_172
      · have hf := o_ip c40 hf
        refine lv_lconst (v := 1) hx hb dX1_setGone_43 (by decide) ?_
        refine lv_goto (tgt := 48) hx hb dX1_setGone_44 (by decide) ?_
        obtain ⟨r48, h48r, hf⟩ := o_bs hf
        refine k_gov (va_runS (As := [.ref (q 26), .long 1]) (rest := []) ⟨hx, hb, hml, hown, hts⟩ (zX1_write l D cy sa (WX q cy (sA (sA u 4 r14) 5 r31) ++ rest) H.size 26 (q 26) 3 (gA u 6) 1 r48 rfl h48r) (va_cwS 2 hts (gB_S wB75 wB76 wB32 wB77) rfl rfl rfl (by decide +kernel) ⟨Nat.le_of_ble_eq_true rfl, Nat.le_of_ble_eq_true rfl⟩) ⟨kP.blind, k_pre hP hD hS hE hA⟩ rfl rfl hl.1 rfl (lv_room (Nat.le_of_ble_eq_true rfl)) dX1_setGone_48 ⟨Nat.zero_le _, Nat.zero_le _⟩) hD hS hA (fun H locs hP hD hS => ?_)
        have hQ : ∀ (xb : KS) (x0 : (Nat → Int64)) (x1 : (Nat → Int64)) (xn : (Nat → Int64)), (WX q cy (sA (sA xb 4 x0) 5 x1) ++ rest).set 26 (q 26, .inl (cy 1, 3, .inr (.inl xn))) = WX q cy (sA (sA (sA xb 4 x0) 5 x1) 6 xn) ++ rest := fun _ _ _ _ => rfl
        have hP : va_P D vwCl (WX q cy (sA (sA (sA u 4 r14) 5 r31) 6 r48) ++ rest) H := k_wP (hQ u r14 r31 r48) hP
        have hD : va_D A (WX q cy (sA (sA (sA u 4 r14) 5 r31) 6 r48) ++ rest) := k_wD (hQ u r14 r31 r48) hD
        clear hQ
        refine lv_aload_n hx hb dX1_setGone_51 rfl (lv_at hl 0 rfl) ?_
        refine va_get (ci := 1) (v := .ref (q 22)) (C := RX1) (T := TX1) (N := 5) hx hb hts inlX1 hown hE.1 hP 21 rfl rfl 0 (by decide) (hts _ wB70) (fun _ h9 => h9) rfl dX1_setGone_52 ?_
        refine lv_lconst (v := 0) hx hb dX1_setGone_55 (by decide) ?_
        obtain ⟨r56, h56r, hf⟩ := o_bs hf
        refine k_gov (va_runS (As := [.ref (q 22), .long 0]) (rest := []) ⟨hx, hb, hml, hown, hts⟩ (zX1_write l D cy sa (WX q cy (sA (sA (sA u 4 r14) 5 r31) 6 r48) ++ rest) H.size 22 (q 22) 3 (gA u 2) 0 r56 rfl h56r) (va_cwS 2 hts (gB_S wB75 wB76 wB32 wB77) rfl rfl rfl (by decide +kernel) ⟨Nat.le_of_ble_eq_true rfl, Nat.le_of_ble_eq_true rfl⟩) ⟨kP.blind, k_pre hP hD hS hE hA⟩ rfl rfl hl.1 rfl (lv_room (Nat.le_of_ble_eq_true rfl)) dX1_setGone_56 ⟨Nat.zero_le _, Nat.zero_le _⟩) hD hS hA (fun H locs hP hD hS => ?_)
        have hQ : ∀ (xb : KS) (x0 : (Nat → Int64)) (x1 : (Nat → Int64)) (x2 : (Nat → Int64)) (xn : (Nat → Int64)), (WX q cy (sA (sA (sA xb 4 x0) 5 x1) 6 x2) ++ rest).set 22 (q 22, .inl (cy 1, 3, .inr (.inl xn))) = WX q cy (sA (sA (sA (sA xb 2 xn) 4 x0) 5 x1) 6 x2) ++ rest := fun _ _ _ _ _ => rfl
        have hP : va_P D vwCl (WX q cy (sA (sA (sA (sA u 2 r56) 4 r14) 5 r31) 6 r48) ++ rest) H := k_wP (hQ u r14 r31 r48 r56) hP
        have hD : va_D A (WX q cy (sA (sA (sA (sA u 2 r56) 4 r14) 5 r31) 6 r48) ++ rest) := k_wD (hQ u r14 r31 r48 r56) hD
        clear hQ
        refine lv_aload_n hx hb dX1_setGone_59 rfl (lv_at hl 0 rfl) ?_
        refine va_get (ci := 1) (v := .ref (q 23)) (C := RX1) (T := TX1) (N := 5) hx hb hts inlX1 hown hE.1 hP 21 rfl rfl 1 (by decide) (hts _ wB71) (fun _ h9 => h9) rfl dX1_setGone_60 ?_
        refine lv_lconst (v := 1) hx hb dX1_setGone_63 (by decide) ?_
        obtain ⟨r64, h64r, hf⟩ := o_bs hf
        refine k_gov (va_runS (As := [.ref (q 23), .long 1]) (rest := []) ⟨hx, hb, hml, hown, hts⟩ (zX1_write l D cy sa (WX q cy (sA (sA (sA (sA u 2 r56) 4 r14) 5 r31) 6 r48) ++ rest) H.size 23 (q 23) 3 (gA u 3) 1 r64 rfl h64r) (va_cwS 2 hts (gB_S wB75 wB76 wB32 wB77) rfl rfl rfl (by decide +kernel) ⟨Nat.le_of_ble_eq_true rfl, Nat.le_of_ble_eq_true rfl⟩) ⟨kP.blind, k_pre hP hD hS hE hA⟩ rfl rfl hl.1 rfl (lv_room (Nat.le_of_ble_eq_true rfl)) dX1_setGone_64 ⟨Nat.zero_le _, Nat.zero_le _⟩) hD hS hA (fun H locs hP hD hS => ?_)
        have hQ : ∀ (xb : KS) (x0 : (Nat → Int64)) (x1 : (Nat → Int64)) (x2 : (Nat → Int64)) (x3 : (Nat → Int64)) (xn : (Nat → Int64)), (WX q cy (sA (sA (sA (sA xb 2 x0) 4 x1) 5 x2) 6 x3) ++ rest).set 23 (q 23, .inl (cy 1, 3, .inr (.inl xn))) = WX q cy (sA (sA (sA (sA (sA xb 2 x0) 3 xn) 4 x1) 5 x2) 6 x3) ++ rest := fun _ _ _ _ _ _ => rfl
        have hP : va_P D vwCl (WX q cy (sA (sA (sA (sA (sA u 2 r56) 3 r64) 4 r14) 5 r31) 6 r48) ++ rest) H := k_wP (hQ u r56 r14 r31 r48 r64) hP
        have hD : va_D A (WX q cy (sA (sA (sA (sA (sA u 2 r56) 3 r64) 4 r14) 5 r31) 6 r48) ++ rest) := k_wD (hQ u r56 r14 r31 r48 r64) hD
        clear hQ
        refine lv_bipush (v := 20) hx hb dX1_setGone_67 (by decide) ?_
        refine lv_iload_n hx hb dX1_setGone_69 rfl (lv_at hl 2 rfl) ?_
        refine lv_isub hx hb dX1_setGone_70 ?_
        refine lv_istore (lv' := [(4, .int (20 - a2)), (0, .ref (q 21)), (1, .int a1), (2, .int a2), (3, .int a3)]) hx hb dX1_setGone_71 hl (by decide) rfl (fun ls hl => ?_)
        refine lv_iconst (v := 0) hx hb dX1_setGone_73 (by decide) ?_
        refine lv_istore (lv' := [(5, .int 0), (4, .int (20 - a2)), (0, .ref (q 21)), (1, .int a1), (2, .int a2), (3, .int a3)]) hx hb dX1_setGone_74 hl (by decide) rfl (fun ls hl => ?_)
        have L76 : ∀ (n76v : Nat) (s76 : Int32 × KS) (e76 : KS), lpO (mX1_setGone_s76 a2 a3 (20 - a2)) n76v s76 = some e76 → ∀ (H : Heap) (locs : List Loc) (ls : Array Slot), va_P D vwCl (WX q cy s76.2 ++ rest) H → va_D A (WX q cy s76.2 ++ rest) → va_S A s.heap H locs → lv_has ls 6 [(0, .ref (q 21)), (2, .int a2), (3, .int a3), (4, .int (20 - a2)), (5, .int s76.1)] → (∀ (H : Heap) (locs : List Loc) (ls : Array Slot), va_P D vwCl (WX q cy e76 ++ rest) H → va_D A (WX q cy e76 ++ rest) → va_S A s.heap H locs → lv_has ls 6 [(0, .ref (q 21)), (3, .int a3)] → W p l e rmX1_setGone s m ([.ref (q 21), .int a1, .int a2, .int a3] : List Value).toArray below meth c H locs 0 0 (MQ below (kQv D A (WX q cy res ++ rest)) ([.ref (q 21), .int a1, .int a2, .int a3] : List Value).toArray s 0 0 A) (F0 m 158 ls [])) → W p l e rmX1_setGone s m ([.ref (q 21), .int a1, .int a2, .int a3] : List Value).toArray below meth c H locs 0 0 (MQ below (kQv D A (WX q cy res ++ rest)) ([.ref (q 21), .int a1, .int a2, .int a3] : List Value).toArray s 0 0 A) (F0 m 76 ls []) := by
          intro n76v
          induction n76v with
          | zero => intro s76 e76 h; exact (lpO_z h).elim
          | succ n76v ih76 =>
            intro s76 e76 h76z H locs ls hP hD hS hl K76_0
            obtain ⟨x76, hf, h76z⟩ := lpO_s h76z
            unfold mX1_setGone_s76 at hf
            refine lv_iload hx hb dX1_setGone_76 (lv_at hl 4 rfl) ?_
            refine lv_iload_n hx hb dX1_setGone_78 rfl (lv_at hl 2 rfl) ?_
            refine lv_icmp_ge (tgt := 158) hx hb dX1_setGone_79 (by decide) (fun c79 => ?_) (fun c79 => ?_)
            · have hf := o_ip c79 hf
              obtain rfl := o_ret hf
              obtain rfl := lpK_l h76z
              exact K76_0 _ _ _ hP hD hS (lv_sub hl [0, 2] rfl)
            · have hf := o_in c79 hf
              refine lv_aload_n hx hb dX1_setGone_82 rfl (lv_at hl 0 rfl) ?_
              refine va_get (ci := 1) (v := .ref (q 22)) (C := RX1) (T := TX1) (N := 5) hx hb hts inlX1 hown hE.1 hP 21 rfl rfl 0 (by decide) (hts _ wB70) (fun _ h9 => h9) rfl dX1_setGone_83 ?_
              refine lv_bipush (v := 20) hx hb dX1_setGone_86 (by decide) ?_
              refine lv_aload_n hx hb dX1_setGone_88 rfl (lv_at hl 0 rfl) ?_
              refine va_get (ci := 1) (v := .ref (q 26)) (C := RX1) (T := TX1) (N := 5) hx hb hts inlX1 hown hE.1 hP 21 rfl rfl 4 (by decide) (hts _ wB74) (fun _ h9 => h9) rfl dX1_setGone_89 ?_
              refine lv_iload_n hx hb dX1_setGone_92 rfl (lv_at hl 1 rfl) ?_
              obtain ⟨r93, h93r, hf⟩ := o_bs hf
              refine k_gov (va_runS (As := [.ref (q 22), .int 20, .ref (q 26), .int a2]) (rest := []) ⟨hx, hb, hml, hown, hts⟩ (zX1_mix l D cy sa (WX q cy s76.2 ++ rest) H.size 22 (q 22) 3 (gA s76.2 2) 26 (q 26) 3 (gA s76.2 6) 20 a2 r93 rfl rfl (by decide) h93r) (va_cwS 4 hts (gB_S wB524 wB525 wB32 wB526) rfl rfl rfl (by decide +kernel) ⟨Nat.le_of_ble_eq_true rfl, Nat.le_of_ble_eq_true rfl⟩) ⟨kP.blind, k_pre hP hD hS hE hA⟩ rfl rfl hl.1 rfl (lv_room (Nat.le_of_ble_eq_true rfl)) dX1_setGone_93 ⟨Nat.zero_le _, Nat.zero_le _⟩) hD hS hA (fun H locs hP hD hS => ?_)
              have hP : va_P D vwCl (WX q cy (sA s76.2 2 r93) ++ rest) H := hP
              have hD : va_D A (WX q cy (sA s76.2 2 r93) ++ rest) := hD
              refine lv_aload_n hx hb dX1_setGone_96 rfl (lv_at hl 0 rfl) ?_
              refine va_get (ci := 1) (v := .ref (q 26)) (C := RX1) (T := TX1) (N := 5) hx hb hts inlX1 hown hE.1 hP 21 rfl rfl 4 (by decide) (hts _ wB74) (fun _ h9 => h9) rfl dX1_setGone_97 ?_
              refine lv_iload hx hb dX1_setGone_100 (lv_at hl 3 rfl) ?_
              refine lv_aload_n hx hb dX1_setGone_102 rfl (lv_at hl 0 rfl) ?_
              refine va_get (ci := 1) (v := .ref (q 25)) (C := RX1) (T := TX1) (N := 5) hx hb hts inlX1 hown hE.1 hP 21 rfl rfl 3 (by decide) (hts _ wB73) (fun _ h9 => h9) rfl dX1_setGone_103 ?_
              refine lv_iload_n hx hb dX1_setGone_106 rfl (lv_at hl 1 rfl) ?_
              obtain ⟨r107, h107r, hf⟩ := o_bs hf
              refine k_gov (va_runS (As := [.ref (q 26), .int (20 - a2), .ref (q 25), .int a2]) (rest := []) ⟨hx, hb, hml, hown, hts⟩ (zX1_mix l D cy sa (WX q cy (sA s76.2 2 r93) ++ rest) H.size 26 (q 26) 3 (gA s76.2 6) 25 (q 25) 3 (gA s76.2 5) (20 - a2) a2 r107 rfl rfl (by decide) h107r) (va_cwS 4 hts (gB_S wB524 wB525 wB32 wB526) rfl rfl rfl (by decide +kernel) ⟨Nat.le_of_ble_eq_true rfl, Nat.le_of_ble_eq_true rfl⟩) ⟨kP.blind, k_pre hP hD hS hE hA⟩ rfl rfl hl.1 rfl (lv_room (Nat.le_of_ble_eq_true rfl)) dX1_setGone_107 ⟨Nat.zero_le _, Nat.zero_le _⟩) hD hS hA (fun H locs hP hD hS => ?_)
              have hQ : ∀ (xb : KS) (x0 : (Nat → Int64)) (xn : (Nat → Int64)), (WX q cy (sA xb 2 x0) ++ rest).set 26 (q 26, .inl (cy 1, 3, .inr (.inl xn))) = WX q cy (sA (sA xb 2 x0) 6 xn) ++ rest := fun _ _ _ => rfl
              have hP : va_P D vwCl (WX q cy (sA (sA s76.2 2 r93) 6 r107) ++ rest) H := k_wP (hQ s76.2 r93 r107) hP
              have hD : va_D A (WX q cy (sA (sA s76.2 2 r93) 6 r107) ++ rest) := k_wD (hQ s76.2 r93 r107) hD
              clear hQ
              refine lv_aload_n hx hb dX1_setGone_110 rfl (lv_at hl 0 rfl) ?_
              refine va_get (ci := 1) (v := .ref (q 25)) (C := RX1) (T := TX1) (N := 5) hx hb hts inlX1 hown hE.1 hP 21 rfl rfl 3 (by decide) (hts _ wB73) (fun _ h9 => h9) rfl dX1_setGone_111 ?_
              refine lv_iload hx hb dX1_setGone_114 (lv_at hl 3 rfl) ?_
              refine lv_aload_n hx hb dX1_setGone_116 rfl (lv_at hl 0 rfl) ?_
              refine va_get (ci := 1) (v := .ref (q 24)) (C := RX1) (T := TX1) (N := 5) hx hb hts inlX1 hown hE.1 hP 21 rfl rfl 2 (by decide) (hts _ wB72) (fun _ h9 => h9) rfl dX1_setGone_117 ?_
              refine lv_iload_n hx hb dX1_setGone_120 rfl (lv_at hl 1 rfl) ?_
              obtain ⟨r121, h121r, hf⟩ := o_bs hf
              refine k_gov (va_runS (As := [.ref (q 25), .int (20 - a2), .ref (q 24), .int a2]) (rest := []) ⟨hx, hb, hml, hown, hts⟩ (zX1_mix l D cy sa (WX q cy (sA (sA s76.2 2 r93) 6 r107) ++ rest) H.size 25 (q 25) 3 (gA s76.2 5) 24 (q 24) 3 (gA s76.2 4) (20 - a2) a2 r121 rfl rfl (by decide) h121r) (va_cwS 4 hts (gB_S wB524 wB525 wB32 wB526) rfl rfl rfl (by decide +kernel) ⟨Nat.le_of_ble_eq_true rfl, Nat.le_of_ble_eq_true rfl⟩) ⟨kP.blind, k_pre hP hD hS hE hA⟩ rfl rfl hl.1 rfl (lv_room (Nat.le_of_ble_eq_true rfl)) dX1_setGone_121 ⟨Nat.zero_le _, Nat.zero_le _⟩) hD hS hA (fun H locs hP hD hS => ?_)
              have hQ : ∀ (xb : KS) (x0 : (Nat → Int64)) (x1 : (Nat → Int64)) (xn : (Nat → Int64)), (WX q cy (sA (sA xb 2 x0) 6 x1) ++ rest).set 25 (q 25, .inl (cy 1, 3, .inr (.inl xn))) = WX q cy (sA (sA (sA xb 2 x0) 5 xn) 6 x1) ++ rest := fun _ _ _ _ => rfl
              have hP : va_P D vwCl (WX q cy (sA (sA (sA s76.2 2 r93) 5 r121) 6 r107) ++ rest) H := k_wP (hQ s76.2 r93 r107 r121) hP
              have hD : va_D A (WX q cy (sA (sA (sA s76.2 2 r93) 5 r121) 6 r107) ++ rest) := k_wD (hQ s76.2 r93 r107 r121) hD
              clear hQ
              refine lv_aload_n hx hb dX1_setGone_124 rfl (lv_at hl 0 rfl) ?_
              refine va_get (ci := 1) (v := .ref (q 24)) (C := RX1) (T := TX1) (N := 5) hx hb hts inlX1 hown hE.1 hP 21 rfl rfl 2 (by decide) (hts _ wB72) (fun _ h9 => h9) rfl dX1_setGone_125 ?_
              refine lv_iload hx hb dX1_setGone_128 (lv_at hl 3 rfl) ?_
              refine lv_aload_n hx hb dX1_setGone_130 rfl (lv_at hl 0 rfl) ?_
              refine va_get (ci := 1) (v := .ref (q 24)) (C := RX1) (T := TX1) (N := 5) hx hb hts inlX1 hown hE.1 hP 21 rfl rfl 2 (by decide) (hts _ wB72) (fun _ h9 => h9) rfl dX1_setGone_131 ?_
              refine lv_iconst (v := 0) hx hb dX1_setGone_134 (by decide) ?_
              obtain ⟨r135, h135r, hf⟩ := o_bs hf
              refine k_gov (va_runS (As := [.ref (q 24), .int (20 - a2), .ref (q 24), .int 0]) (rest := []) ⟨hx, hb, hml, hown, hts⟩ (zX1_mix_s l D cy sa (WX q cy (sA (sA (sA s76.2 2 r93) 5 r121) 6 r107) ++ rest) H.size 24 (q 24) 3 (gA s76.2 4) (20 - a2) 0 r135 rfl h135r) (va_cwS 4 hts (gB_S wB524 wB525 wB32 wB526) rfl rfl rfl (by decide +kernel) ⟨Nat.le_of_ble_eq_true rfl, Nat.le_of_ble_eq_true rfl⟩) ⟨kP.blind, k_pre hP hD hS hE hA⟩ rfl rfl hl.1 rfl (lv_room (Nat.le_of_ble_eq_true rfl)) dX1_setGone_135 ⟨Nat.zero_le _, Nat.zero_le _⟩) hD hS hA (fun H locs hP hD hS => ?_)
              have hQ : ∀ (xb : KS) (x0 : (Nat → Int64)) (x1 : (Nat → Int64)) (x2 : (Nat → Int64)) (xn : (Nat → Int64)), (WX q cy (sA (sA (sA xb 2 x0) 5 x1) 6 x2) ++ rest).set 24 (q 24, .inl (cy 1, 3, .inr (.inl xn))) = WX q cy (sA (sA (sA (sA xb 2 x0) 4 xn) 5 x1) 6 x2) ++ rest := fun _ _ _ _ _ => rfl
              have hP : va_P D vwCl (WX q cy (sA (sA (sA (sA s76.2 2 r93) 4 r135) 5 r121) 6 r107) ++ rest) H := k_wP (hQ s76.2 r93 r121 r107 r135) hP
              have hD : va_D A (WX q cy (sA (sA (sA (sA s76.2 2 r93) 4 r135) 5 r121) 6 r107) ++ rest) := k_wD (hQ s76.2 r93 r121 r107 r135) hD
              clear hQ
              refine lv_aload_n hx hb dX1_setGone_138 rfl (lv_at hl 0 rfl) ?_
              refine va_get (ci := 1) (v := .ref (q 23)) (C := RX1) (T := TX1) (N := 5) hx hb hts inlX1 hown hE.1 hP 21 rfl rfl 1 (by decide) (hts _ wB71) (fun _ h9 => h9) rfl dX1_setGone_139 ?_
              refine lv_bipush (v := 20) hx hb dX1_setGone_142 (by decide) ?_
              refine lv_aload_n hx hb dX1_setGone_144 rfl (lv_at hl 0 rfl) ?_
              refine va_get (ci := 1) (v := .ref (q 23)) (C := RX1) (T := TX1) (N := 5) hx hb hts inlX1 hown hE.1 hP 21 rfl rfl 1 (by decide) (hts _ wB71) (fun _ h9 => h9) rfl dX1_setGone_145 ?_
              refine lv_iconst (v := 0) hx hb dX1_setGone_148 (by decide) ?_
              obtain ⟨r149, h149r, hf⟩ := o_bs hf
              refine k_gov (va_runS (As := [.ref (q 23), .int 20, .ref (q 23), .int 0]) (rest := []) ⟨hx, hb, hml, hown, hts⟩ (zX1_mix_s l D cy sa (WX q cy (sA (sA (sA (sA s76.2 2 r93) 4 r135) 5 r121) 6 r107) ++ rest) H.size 23 (q 23) 3 (gA s76.2 3) 20 0 r149 rfl h149r) (va_cwS 4 hts (gB_S wB524 wB525 wB32 wB526) rfl rfl rfl (by decide +kernel) ⟨Nat.le_of_ble_eq_true rfl, Nat.le_of_ble_eq_true rfl⟩) ⟨kP.blind, k_pre hP hD hS hE hA⟩ rfl rfl hl.1 rfl (lv_room (Nat.le_of_ble_eq_true rfl)) dX1_setGone_149 ⟨Nat.zero_le _, Nat.zero_le _⟩) hD hS hA (fun H locs hP hD hS => ?_)
              have hQ : ∀ (xb : KS) (x0 : (Nat → Int64)) (x1 : (Nat → Int64)) (x2 : (Nat → Int64)) (x3 : (Nat → Int64)) (xn : (Nat → Int64)), (WX q cy (sA (sA (sA (sA xb 2 x0) 4 x1) 5 x2) 6 x3) ++ rest).set 23 (q 23, .inl (cy 1, 3, .inr (.inl xn))) = WX q cy (sA (sA (sA (sA (sA xb 2 x0) 3 xn) 4 x1) 5 x2) 6 x3) ++ rest := fun _ _ _ _ _ _ => rfl
              have hP : va_P D vwCl (WX q cy (sA (sA (sA (sA (sA s76.2 2 r93) 3 r149) 4 r135) 5 r121) 6 r107) ++ rest) H := k_wP (hQ s76.2 r93 r135 r121 r107 r149) hP
              have hD : va_D A (WX q cy (sA (sA (sA (sA (sA s76.2 2 r93) 3 r149) 4 r135) 5 r121) 6 r107) ++ rest) := k_wD (hQ s76.2 r93 r135 r121 r107 r149) hD
              clear hQ
              refine lv_iinc (v := (s76.1 + 1)) (lv' := [(5, .int (s76.1 + 1)), (0, .ref (q 21)), (2, .int a2), (3, .int a3), (4, .int (20 - a2))]) hx hb dX1_setGone_152 hl (k := 4) rfl (by rfl) (by decide) rfl (fun ls hl => ?_)
              refine lv_goto (tgt := 76) hx hb dX1_setGone_155 (by decide) ?_
              obtain rfl := o_ret hf
              exact ih76 _ _ (lpK_r h76z) _ _ _ hP hD hS (lv_sub hl [1, 2, 3, 4, 0] rfl) K76_0
        obtain ⟨e76, h76q, hf⟩ := o_bs hf
        obtain ⟨n76v, h76q⟩ := lpF_ex h76q
        refine L76 n76v _ e76 h76q _ _ _ hP hD hS (lv_sub hl [2, 4, 5, 1, 0] rfl) ?_
        intro H locs ls hP hD hS hl
        refine lv_aload_n hx hb dX1_setGone_158 rfl (lv_at hl 0 rfl) ?_
        refine lv_iconst (v := 2) hx hb dX1_setGone_159 (by decide) ?_
        refine lv_iconst (v := 2) hx hb dX1_setGone_160 (by decide) ?_
        refine lv_iload_n hx hb dX1_setGone_161 rfl (lv_at hl 1 rfl) ?_
        refine lv_imul hx hb dX1_setGone_162 ?_
        obtain ⟨r163, h163r, hf⟩ := o_bs hf
        refine k_gov (va_runV (As := [.int 2, .int (2 * a3)]) (rest := []) ⟨hx, hb, hml, hown, hts⟩ (zX1_lower l D cy sa q rest H.size e76 2 (2 * a3) r163 h163r) (cwV 2 hts (gB_V wB527 wB528 wB529 wB32 wB530) rfl rfl rfl (by decide +kernel) ⟨Nat.le_of_ble_eq_true rfl, Nat.le_of_ble_eq_true rfl⟩) ⟨kP.blind, k_recv hE hP (ci := 1) (q0 := 21) rfl rfl, k_pre hP hD hS hE hA⟩ rfl rfl hl.1 rfl (lv_room (Nat.le_of_ble_eq_true rfl)) dX1_setGone_163 ⟨Nat.zero_le _, Nat.zero_le _⟩) hD hS hA (fun H locs hP hD hS => ?_)
        refine lv_aload_n hx hb dX1_setGone_166 rfl (lv_at hl 0 rfl) ?_
        refine lv_iconst (v := 5) hx hb dX1_setGone_167 (by decide) ?_
        refine lv_iload_n hx hb dX1_setGone_168 rfl (lv_at hl 1 rfl) ?_
        obtain ⟨r169, h169r, hf⟩ := o_bs hf
        refine k_gov (va_runV (As := [.int 5, .int a3]) (rest := []) ⟨hx, hb, hml, hown, hts⟩ (zX1_lower l D cy sa q rest H.size r163 5 a3 r169 h169r) (cwV 2 hts (gB_V wB527 wB528 wB529 wB32 wB530) rfl rfl rfl (by decide +kernel) ⟨Nat.le_of_ble_eq_true rfl, Nat.le_of_ble_eq_true rfl⟩) ⟨kP.blind, k_recv hE hP (ci := 1) (q0 := 21) rfl rfl, k_pre hP hD hS hE hA⟩ rfl rfl hl.1 rfl (lv_room (Nat.le_of_ble_eq_true rfl)) dX1_setGone_169 ⟨Nat.zero_le _, Nat.zero_le _⟩) hD hS hA (fun H locs hP hD hS => ?_)
        obtain rfl := o_ret hf
        exact k_vret hx hb hr hP hD hS (Nat.zero_le _) (Nat.zero_le _) hlocks dX1_setGone_172
    · have hf := o_ip c23 hf
      refine lv_lconst (v := 1) hx hb dX1_setGone_26 (by decide) ?_
      refine lv_goto (tgt := 31) hx hb dX1_setGone_27 (by decide) ?_
      obtain ⟨r31, h31r, hf⟩ := o_bs hf
      refine k_gov (va_runS (As := [.ref (q 25), .long 1]) (rest := []) ⟨hx, hb, hml, hown, hts⟩ (zX1_write l D cy sa (WX q cy (sA u 4 r14) ++ rest) H.size 25 (q 25) 3 (gA u 5) 1 r31 rfl h31r) (va_cwS 2 hts (gB_S wB75 wB76 wB32 wB77) rfl rfl rfl (by decide +kernel) ⟨Nat.le_of_ble_eq_true rfl, Nat.le_of_ble_eq_true rfl⟩) ⟨kP.blind, k_pre hP hD hS hE hA⟩ rfl rfl hl.1 rfl (lv_room (Nat.le_of_ble_eq_true rfl)) dX1_setGone_31 ⟨Nat.zero_le _, Nat.zero_le _⟩) hD hS hA (fun H locs hP hD hS => ?_)
      have hQ : ∀ (xb : KS) (x0 : (Nat → Int64)) (xn : (Nat → Int64)), (WX q cy (sA xb 4 x0) ++ rest).set 25 (q 25, .inl (cy 1, 3, .inr (.inl xn))) = WX q cy (sA (sA xb 4 x0) 5 xn) ++ rest := fun _ _ _ => rfl
      have hP : va_P D vwCl (WX q cy (sA (sA u 4 r14) 5 r31) ++ rest) H := k_wP (hQ u r14 r31) hP
      have hD : va_D A (WX q cy (sA (sA u 4 r14) 5 r31) ++ rest) := k_wD (hQ u r14 r31) hD
      clear hQ
      refine lv_aload_n hx hb dX1_setGone_34 rfl (lv_at hl 0 rfl) ?_
      refine va_get (ci := 1) (v := .ref (q 26)) (C := RX1) (T := TX1) (N := 5) hx hb hts inlX1 hown hE.1 hP 21 rfl rfl 4 (by decide) (hts _ wB74) (fun _ h9 => h9) rfl dX1_setGone_35 ?_
      refine lv_iload_n hx hb dX1_setGone_38 rfl (lv_at hl 1 rfl) ?_
      refine lv_iconst (v := 3) hx hb dX1_setGone_39 (by decide) ?_
      refine lv_icmp_ne (tgt := 47) hx hb dX1_setGone_40 (by decide) (fun c40 => ?_) (fun c40 => ?_)
      · have hf := o_in c40 hf
        refine lv_lconst (v := 0) hx hb dX1_setGone_47 (by decide) ?_
        obtain ⟨r48, h48r, hf⟩ := o_bs hf
        refine k_gov (va_runS (As := [.ref (q 26), .long 0]) (rest := []) ⟨hx, hb, hml, hown, hts⟩ (zX1_write l D cy sa (WX q cy (sA (sA u 4 r14) 5 r31) ++ rest) H.size 26 (q 26) 3 (gA u 6) 0 r48 rfl h48r) (va_cwS 2 hts (gB_S wB75 wB76 wB32 wB77) rfl rfl rfl (by decide +kernel) ⟨Nat.le_of_ble_eq_true rfl, Nat.le_of_ble_eq_true rfl⟩) ⟨kP.blind, k_pre hP hD hS hE hA⟩ rfl rfl hl.1 rfl (lv_room (Nat.le_of_ble_eq_true rfl)) dX1_setGone_48 ⟨Nat.zero_le _, Nat.zero_le _⟩) hD hS hA (fun H locs hP hD hS => ?_)
        have hQ : ∀ (xb : KS) (x0 : (Nat → Int64)) (x1 : (Nat → Int64)) (xn : (Nat → Int64)), (WX q cy (sA (sA xb 4 x0) 5 x1) ++ rest).set 26 (q 26, .inl (cy 1, 3, .inr (.inl xn))) = WX q cy (sA (sA (sA xb 4 x0) 5 x1) 6 xn) ++ rest := fun _ _ _ _ => rfl
        have hP : va_P D vwCl (WX q cy (sA (sA (sA u 4 r14) 5 r31) 6 r48) ++ rest) H := k_wP (hQ u r14 r31 r48) hP
        have hD : va_D A (WX q cy (sA (sA (sA u 4 r14) 5 r31) 6 r48) ++ rest) := k_wD (hQ u r14 r31 r48) hD
        clear hQ
        refine lv_aload_n hx hb dX1_setGone_51 rfl (lv_at hl 0 rfl) ?_
        refine va_get (ci := 1) (v := .ref (q 22)) (C := RX1) (T := TX1) (N := 5) hx hb hts inlX1 hown hE.1 hP 21 rfl rfl 0 (by decide) (hts _ wB70) (fun _ h9 => h9) rfl dX1_setGone_52 ?_
        refine lv_lconst (v := 0) hx hb dX1_setGone_55 (by decide) ?_
        obtain ⟨r56, h56r, hf⟩ := o_bs hf
        refine k_gov (va_runS (As := [.ref (q 22), .long 0]) (rest := []) ⟨hx, hb, hml, hown, hts⟩ (zX1_write l D cy sa (WX q cy (sA (sA (sA u 4 r14) 5 r31) 6 r48) ++ rest) H.size 22 (q 22) 3 (gA u 2) 0 r56 rfl h56r) (va_cwS 2 hts (gB_S wB75 wB76 wB32 wB77) rfl rfl rfl (by decide +kernel) ⟨Nat.le_of_ble_eq_true rfl, Nat.le_of_ble_eq_true rfl⟩) ⟨kP.blind, k_pre hP hD hS hE hA⟩ rfl rfl hl.1 rfl (lv_room (Nat.le_of_ble_eq_true rfl)) dX1_setGone_56 ⟨Nat.zero_le _, Nat.zero_le _⟩) hD hS hA (fun H locs hP hD hS => ?_)
        have hQ : ∀ (xb : KS) (x0 : (Nat → Int64)) (x1 : (Nat → Int64)) (x2 : (Nat → Int64)) (xn : (Nat → Int64)), (WX q cy (sA (sA (sA xb 4 x0) 5 x1) 6 x2) ++ rest).set 22 (q 22, .inl (cy 1, 3, .inr (.inl xn))) = WX q cy (sA (sA (sA (sA xb 2 xn) 4 x0) 5 x1) 6 x2) ++ rest := fun _ _ _ _ _ => rfl
        have hP : va_P D vwCl (WX q cy (sA (sA (sA (sA u 2 r56) 4 r14) 5 r31) 6 r48) ++ rest) H := k_wP (hQ u r14 r31 r48 r56) hP
        have hD : va_D A (WX q cy (sA (sA (sA (sA u 2 r56) 4 r14) 5 r31) 6 r48) ++ rest) := k_wD (hQ u r14 r31 r48 r56) hD
        clear hQ
        refine lv_aload_n hx hb dX1_setGone_59 rfl (lv_at hl 0 rfl) ?_
        refine va_get (ci := 1) (v := .ref (q 23)) (C := RX1) (T := TX1) (N := 5) hx hb hts inlX1 hown hE.1 hP 21 rfl rfl 1 (by decide) (hts _ wB71) (fun _ h9 => h9) rfl dX1_setGone_60 ?_
        refine lv_lconst (v := 1) hx hb dX1_setGone_63 (by decide) ?_
        obtain ⟨r64, h64r, hf⟩ := o_bs hf
        refine k_gov (va_runS (As := [.ref (q 23), .long 1]) (rest := []) ⟨hx, hb, hml, hown, hts⟩ (zX1_write l D cy sa (WX q cy (sA (sA (sA (sA u 2 r56) 4 r14) 5 r31) 6 r48) ++ rest) H.size 23 (q 23) 3 (gA u 3) 1 r64 rfl h64r) (va_cwS 2 hts (gB_S wB75 wB76 wB32 wB77) rfl rfl rfl (by decide +kernel) ⟨Nat.le_of_ble_eq_true rfl, Nat.le_of_ble_eq_true rfl⟩) ⟨kP.blind, k_pre hP hD hS hE hA⟩ rfl rfl hl.1 rfl (lv_room (Nat.le_of_ble_eq_true rfl)) dX1_setGone_64 ⟨Nat.zero_le _, Nat.zero_le _⟩) hD hS hA (fun H locs hP hD hS => ?_)
        have hQ : ∀ (xb : KS) (x0 : (Nat → Int64)) (x1 : (Nat → Int64)) (x2 : (Nat → Int64)) (x3 : (Nat → Int64)) (xn : (Nat → Int64)), (WX q cy (sA (sA (sA (sA xb 2 x0) 4 x1) 5 x2) 6 x3) ++ rest).set 23 (q 23, .inl (cy 1, 3, .inr (.inl xn))) = WX q cy (sA (sA (sA (sA (sA xb 2 x0) 3 xn) 4 x1) 5 x2) 6 x3) ++ rest := fun _ _ _ _ _ _ => rfl
        have hP : va_P D vwCl (WX q cy (sA (sA (sA (sA (sA u 2 r56) 3 r64) 4 r14) 5 r31) 6 r48) ++ rest) H := k_wP (hQ u r56 r14 r31 r48 r64) hP
        have hD : va_D A (WX q cy (sA (sA (sA (sA (sA u 2 r56) 3 r64) 4 r14) 5 r31) 6 r48) ++ rest) := k_wD (hQ u r56 r14 r31 r48 r64) hD
        clear hQ
        refine lv_bipush (v := 20) hx hb dX1_setGone_67 (by decide) ?_
        refine lv_iload_n hx hb dX1_setGone_69 rfl (lv_at hl 2 rfl) ?_
        refine lv_isub hx hb dX1_setGone_70 ?_
        refine lv_istore (lv' := [(4, .int (20 - a2)), (0, .ref (q 21)), (1, .int a1), (2, .int a2), (3, .int a3)]) hx hb dX1_setGone_71 hl (by decide) rfl (fun ls hl => ?_)
        refine lv_iconst (v := 0) hx hb dX1_setGone_73 (by decide) ?_
        refine lv_istore (lv' := [(5, .int 0), (4, .int (20 - a2)), (0, .ref (q 21)), (1, .int a1), (2, .int a2), (3, .int a3)]) hx hb dX1_setGone_74 hl (by decide) rfl (fun ls hl => ?_)
        have L76 : ∀ (n76v : Nat) (s76 : Int32 × KS) (e76 : KS), lpO (mX1_setGone_s76 a2 a3 (20 - a2)) n76v s76 = some e76 → ∀ (H : Heap) (locs : List Loc) (ls : Array Slot), va_P D vwCl (WX q cy s76.2 ++ rest) H → va_D A (WX q cy s76.2 ++ rest) → va_S A s.heap H locs → lv_has ls 6 [(0, .ref (q 21)), (2, .int a2), (3, .int a3), (4, .int (20 - a2)), (5, .int s76.1)] → (∀ (H : Heap) (locs : List Loc) (ls : Array Slot), va_P D vwCl (WX q cy e76 ++ rest) H → va_D A (WX q cy e76 ++ rest) → va_S A s.heap H locs → lv_has ls 6 [(0, .ref (q 21)), (3, .int a3)] → W p l e rmX1_setGone s m ([.ref (q 21), .int a1, .int a2, .int a3] : List Value).toArray below meth c H locs 0 0 (MQ below (kQv D A (WX q cy res ++ rest)) ([.ref (q 21), .int a1, .int a2, .int a3] : List Value).toArray s 0 0 A) (F0 m 158 ls [])) → W p l e rmX1_setGone s m ([.ref (q 21), .int a1, .int a2, .int a3] : List Value).toArray below meth c H locs 0 0 (MQ below (kQv D A (WX q cy res ++ rest)) ([.ref (q 21), .int a1, .int a2, .int a3] : List Value).toArray s 0 0 A) (F0 m 76 ls []) := by
          intro n76v
          induction n76v with
          | zero => intro s76 e76 h; exact (lpO_z h).elim
          | succ n76v ih76 =>
            intro s76 e76 h76z H locs ls hP hD hS hl K76_0
            obtain ⟨x76, hf, h76z⟩ := lpO_s h76z
            unfold mX1_setGone_s76 at hf
            refine lv_iload hx hb dX1_setGone_76 (lv_at hl 4 rfl) ?_
            refine lv_iload_n hx hb dX1_setGone_78 rfl (lv_at hl 2 rfl) ?_
            refine lv_icmp_ge (tgt := 158) hx hb dX1_setGone_79 (by decide) (fun c79 => ?_) (fun c79 => ?_)
            · have hf := o_ip c79 hf
              obtain rfl := o_ret hf
              obtain rfl := lpK_l h76z
              exact K76_0 _ _ _ hP hD hS (lv_sub hl [0, 2] rfl)
            · have hf := o_in c79 hf
              refine lv_aload_n hx hb dX1_setGone_82 rfl (lv_at hl 0 rfl) ?_
              refine va_get (ci := 1) (v := .ref (q 22)) (C := RX1) (T := TX1) (N := 5) hx hb hts inlX1 hown hE.1 hP 21 rfl rfl 0 (by decide) (hts _ wB70) (fun _ h9 => h9) rfl dX1_setGone_83 ?_
              refine lv_bipush (v := 20) hx hb dX1_setGone_86 (by decide) ?_
              refine lv_aload_n hx hb dX1_setGone_88 rfl (lv_at hl 0 rfl) ?_
              refine va_get (ci := 1) (v := .ref (q 26)) (C := RX1) (T := TX1) (N := 5) hx hb hts inlX1 hown hE.1 hP 21 rfl rfl 4 (by decide) (hts _ wB74) (fun _ h9 => h9) rfl dX1_setGone_89 ?_
              refine lv_iload_n hx hb dX1_setGone_92 rfl (lv_at hl 1 rfl) ?_
              obtain ⟨r93, h93r, hf⟩ := o_bs hf
              refine k_gov (va_runS (As := [.ref (q 22), .int 20, .ref (q 26), .int a2]) (rest := []) ⟨hx, hb, hml, hown, hts⟩ (zX1_mix l D cy sa (WX q cy s76.2 ++ rest) H.size 22 (q 22) 3 (gA s76.2 2) 26 (q 26) 3 (gA s76.2 6) 20 a2 r93 rfl rfl (by decide) h93r) (va_cwS 4 hts (gB_S wB524 wB525 wB32 wB526) rfl rfl rfl (by decide +kernel) ⟨Nat.le_of_ble_eq_true rfl, Nat.le_of_ble_eq_true rfl⟩) ⟨kP.blind, k_pre hP hD hS hE hA⟩ rfl rfl hl.1 rfl (lv_room (Nat.le_of_ble_eq_true rfl)) dX1_setGone_93 ⟨Nat.zero_le _, Nat.zero_le _⟩) hD hS hA (fun H locs hP hD hS => ?_)
              have hP : va_P D vwCl (WX q cy (sA s76.2 2 r93) ++ rest) H := hP
              have hD : va_D A (WX q cy (sA s76.2 2 r93) ++ rest) := hD
              refine lv_aload_n hx hb dX1_setGone_96 rfl (lv_at hl 0 rfl) ?_
              refine va_get (ci := 1) (v := .ref (q 26)) (C := RX1) (T := TX1) (N := 5) hx hb hts inlX1 hown hE.1 hP 21 rfl rfl 4 (by decide) (hts _ wB74) (fun _ h9 => h9) rfl dX1_setGone_97 ?_
              refine lv_iload hx hb dX1_setGone_100 (lv_at hl 3 rfl) ?_
              refine lv_aload_n hx hb dX1_setGone_102 rfl (lv_at hl 0 rfl) ?_
              refine va_get (ci := 1) (v := .ref (q 25)) (C := RX1) (T := TX1) (N := 5) hx hb hts inlX1 hown hE.1 hP 21 rfl rfl 3 (by decide) (hts _ wB73) (fun _ h9 => h9) rfl dX1_setGone_103 ?_
              refine lv_iload_n hx hb dX1_setGone_106 rfl (lv_at hl 1 rfl) ?_
              obtain ⟨r107, h107r, hf⟩ := o_bs hf
              refine k_gov (va_runS (As := [.ref (q 26), .int (20 - a2), .ref (q 25), .int a2]) (rest := []) ⟨hx, hb, hml, hown, hts⟩ (zX1_mix l D cy sa (WX q cy (sA s76.2 2 r93) ++ rest) H.size 26 (q 26) 3 (gA s76.2 6) 25 (q 25) 3 (gA s76.2 5) (20 - a2) a2 r107 rfl rfl (by decide) h107r) (va_cwS 4 hts (gB_S wB524 wB525 wB32 wB526) rfl rfl rfl (by decide +kernel) ⟨Nat.le_of_ble_eq_true rfl, Nat.le_of_ble_eq_true rfl⟩) ⟨kP.blind, k_pre hP hD hS hE hA⟩ rfl rfl hl.1 rfl (lv_room (Nat.le_of_ble_eq_true rfl)) dX1_setGone_107 ⟨Nat.zero_le _, Nat.zero_le _⟩) hD hS hA (fun H locs hP hD hS => ?_)
              have hQ : ∀ (xb : KS) (x0 : (Nat → Int64)) (xn : (Nat → Int64)), (WX q cy (sA xb 2 x0) ++ rest).set 26 (q 26, .inl (cy 1, 3, .inr (.inl xn))) = WX q cy (sA (sA xb 2 x0) 6 xn) ++ rest := fun _ _ _ => rfl
              have hP : va_P D vwCl (WX q cy (sA (sA s76.2 2 r93) 6 r107) ++ rest) H := k_wP (hQ s76.2 r93 r107) hP
              have hD : va_D A (WX q cy (sA (sA s76.2 2 r93) 6 r107) ++ rest) := k_wD (hQ s76.2 r93 r107) hD
              clear hQ
              refine lv_aload_n hx hb dX1_setGone_110 rfl (lv_at hl 0 rfl) ?_
              refine va_get (ci := 1) (v := .ref (q 25)) (C := RX1) (T := TX1) (N := 5) hx hb hts inlX1 hown hE.1 hP 21 rfl rfl 3 (by decide) (hts _ wB73) (fun _ h9 => h9) rfl dX1_setGone_111 ?_
              refine lv_iload hx hb dX1_setGone_114 (lv_at hl 3 rfl) ?_
              refine lv_aload_n hx hb dX1_setGone_116 rfl (lv_at hl 0 rfl) ?_
              refine va_get (ci := 1) (v := .ref (q 24)) (C := RX1) (T := TX1) (N := 5) hx hb hts inlX1 hown hE.1 hP 21 rfl rfl 2 (by decide) (hts _ wB72) (fun _ h9 => h9) rfl dX1_setGone_117 ?_
              refine lv_iload_n hx hb dX1_setGone_120 rfl (lv_at hl 1 rfl) ?_
              obtain ⟨r121, h121r, hf⟩ := o_bs hf
              refine k_gov (va_runS (As := [.ref (q 25), .int (20 - a2), .ref (q 24), .int a2]) (rest := []) ⟨hx, hb, hml, hown, hts⟩ (zX1_mix l D cy sa (WX q cy (sA (sA s76.2 2 r93) 6 r107) ++ rest) H.size 25 (q 25) 3 (gA s76.2 5) 24 (q 24) 3 (gA s76.2 4) (20 - a2) a2 r121 rfl rfl (by decide) h121r) (va_cwS 4 hts (gB_S wB524 wB525 wB32 wB526) rfl rfl rfl (by decide +kernel) ⟨Nat.le_of_ble_eq_true rfl, Nat.le_of_ble_eq_true rfl⟩) ⟨kP.blind, k_pre hP hD hS hE hA⟩ rfl rfl hl.1 rfl (lv_room (Nat.le_of_ble_eq_true rfl)) dX1_setGone_121 ⟨Nat.zero_le _, Nat.zero_le _⟩) hD hS hA (fun H locs hP hD hS => ?_)
              have hQ : ∀ (xb : KS) (x0 : (Nat → Int64)) (x1 : (Nat → Int64)) (xn : (Nat → Int64)), (WX q cy (sA (sA xb 2 x0) 6 x1) ++ rest).set 25 (q 25, .inl (cy 1, 3, .inr (.inl xn))) = WX q cy (sA (sA (sA xb 2 x0) 5 xn) 6 x1) ++ rest := fun _ _ _ _ => rfl
              have hP : va_P D vwCl (WX q cy (sA (sA (sA s76.2 2 r93) 5 r121) 6 r107) ++ rest) H := k_wP (hQ s76.2 r93 r107 r121) hP
              have hD : va_D A (WX q cy (sA (sA (sA s76.2 2 r93) 5 r121) 6 r107) ++ rest) := k_wD (hQ s76.2 r93 r107 r121) hD
              clear hQ
              refine lv_aload_n hx hb dX1_setGone_124 rfl (lv_at hl 0 rfl) ?_
              refine va_get (ci := 1) (v := .ref (q 24)) (C := RX1) (T := TX1) (N := 5) hx hb hts inlX1 hown hE.1 hP 21 rfl rfl 2 (by decide) (hts _ wB72) (fun _ h9 => h9) rfl dX1_setGone_125 ?_
              refine lv_iload hx hb dX1_setGone_128 (lv_at hl 3 rfl) ?_
              refine lv_aload_n hx hb dX1_setGone_130 rfl (lv_at hl 0 rfl) ?_
              refine va_get (ci := 1) (v := .ref (q 24)) (C := RX1) (T := TX1) (N := 5) hx hb hts inlX1 hown hE.1 hP 21 rfl rfl 2 (by decide) (hts _ wB72) (fun _ h9 => h9) rfl dX1_setGone_131 ?_
              refine lv_iconst (v := 0) hx hb dX1_setGone_134 (by decide) ?_
              obtain ⟨r135, h135r, hf⟩ := o_bs hf
              refine k_gov (va_runS (As := [.ref (q 24), .int (20 - a2), .ref (q 24), .int 0]) (rest := []) ⟨hx, hb, hml, hown, hts⟩ (zX1_mix_s l D cy sa (WX q cy (sA (sA (sA s76.2 2 r93) 5 r121) 6 r107) ++ rest) H.size 24 (q 24) 3 (gA s76.2 4) (20 - a2) 0 r135 rfl h135r) (va_cwS 4 hts (gB_S wB524 wB525 wB32 wB526) rfl rfl rfl (by decide +kernel) ⟨Nat.le_of_ble_eq_true rfl, Nat.le_of_ble_eq_true rfl⟩) ⟨kP.blind, k_pre hP hD hS hE hA⟩ rfl rfl hl.1 rfl (lv_room (Nat.le_of_ble_eq_true rfl)) dX1_setGone_135 ⟨Nat.zero_le _, Nat.zero_le _⟩) hD hS hA (fun H locs hP hD hS => ?_)
              have hQ : ∀ (xb : KS) (x0 : (Nat → Int64)) (x1 : (Nat → Int64)) (x2 : (Nat → Int64)) (xn : (Nat → Int64)), (WX q cy (sA (sA (sA xb 2 x0) 5 x1) 6 x2) ++ rest).set 24 (q 24, .inl (cy 1, 3, .inr (.inl xn))) = WX q cy (sA (sA (sA (sA xb 2 x0) 4 xn) 5 x1) 6 x2) ++ rest := fun _ _ _ _ _ => rfl
              have hP : va_P D vwCl (WX q cy (sA (sA (sA (sA s76.2 2 r93) 4 r135) 5 r121) 6 r107) ++ rest) H := k_wP (hQ s76.2 r93 r121 r107 r135) hP
              have hD : va_D A (WX q cy (sA (sA (sA (sA s76.2 2 r93) 4 r135) 5 r121) 6 r107) ++ rest) := k_wD (hQ s76.2 r93 r121 r107 r135) hD
              clear hQ
              refine lv_aload_n hx hb dX1_setGone_138 rfl (lv_at hl 0 rfl) ?_
              refine va_get (ci := 1) (v := .ref (q 23)) (C := RX1) (T := TX1) (N := 5) hx hb hts inlX1 hown hE.1 hP 21 rfl rfl 1 (by decide) (hts _ wB71) (fun _ h9 => h9) rfl dX1_setGone_139 ?_
              refine lv_bipush (v := 20) hx hb dX1_setGone_142 (by decide) ?_
              refine lv_aload_n hx hb dX1_setGone_144 rfl (lv_at hl 0 rfl) ?_
              refine va_get (ci := 1) (v := .ref (q 23)) (C := RX1) (T := TX1) (N := 5) hx hb hts inlX1 hown hE.1 hP 21 rfl rfl 1 (by decide) (hts _ wB71) (fun _ h9 => h9) rfl dX1_setGone_145 ?_
              refine lv_iconst (v := 0) hx hb dX1_setGone_148 (by decide) ?_
              obtain ⟨r149, h149r, hf⟩ := o_bs hf
              refine k_gov (va_runS (As := [.ref (q 23), .int 20, .ref (q 23), .int 0]) (rest := []) ⟨hx, hb, hml, hown, hts⟩ (zX1_mix_s l D cy sa (WX q cy (sA (sA (sA (sA s76.2 2 r93) 4 r135) 5 r121) 6 r107) ++ rest) H.size 23 (q 23) 3 (gA s76.2 3) 20 0 r149 rfl h149r) (va_cwS 4 hts (gB_S wB524 wB525 wB32 wB526) rfl rfl rfl (by decide +kernel) ⟨Nat.le_of_ble_eq_true rfl, Nat.le_of_ble_eq_true rfl⟩) ⟨kP.blind, k_pre hP hD hS hE hA⟩ rfl rfl hl.1 rfl (lv_room (Nat.le_of_ble_eq_true rfl)) dX1_setGone_149 ⟨Nat.zero_le _, Nat.zero_le _⟩) hD hS hA (fun H locs hP hD hS => ?_)
              have hQ : ∀ (xb : KS) (x0 : (Nat → Int64)) (x1 : (Nat → Int64)) (x2 : (Nat → Int64)) (x3 : (Nat → Int64)) (xn : (Nat → Int64)), (WX q cy (sA (sA (sA (sA xb 2 x0) 4 x1) 5 x2) 6 x3) ++ rest).set 23 (q 23, .inl (cy 1, 3, .inr (.inl xn))) = WX q cy (sA (sA (sA (sA (sA xb 2 x0) 3 xn) 4 x1) 5 x2) 6 x3) ++ rest := fun _ _ _ _ _ _ => rfl
              have hP : va_P D vwCl (WX q cy (sA (sA (sA (sA (sA s76.2 2 r93) 3 r149) 4 r135) 5 r121) 6 r107) ++ rest) H := k_wP (hQ s76.2 r93 r135 r121 r107 r149) hP
              have hD : va_D A (WX q cy (sA (sA (sA (sA (sA s76.2 2 r93) 3 r149) 4 r135) 5 r121) 6 r107) ++ rest) := k_wD (hQ s76.2 r93 r135 r121 r107 r149) hD
              clear hQ
              refine lv_iinc (v := (s76.1 + 1)) (lv' := [(5, .int (s76.1 + 1)), (0, .ref (q 21)), (2, .int a2), (3, .int a3), (4, .int (20 - a2))]) hx hb dX1_setGone_152 hl (k := 4) rfl (by rfl) (by decide) rfl (fun ls hl => ?_)
              refine lv_goto (tgt := 76) hx hb dX1_setGone_155 (by decide) ?_
              obtain rfl := o_ret hf
              exact ih76 _ _ (lpK_r h76z) _ _ _ hP hD hS (lv_sub hl [1, 2, 3, 4, 0] rfl) K76_0
        obtain ⟨e76, h76q, hf⟩ := o_bs hf
        obtain ⟨n76v, h76q⟩ := lpF_ex h76q
        refine L76 n76v _ e76 h76q _ _ _ hP hD hS (lv_sub hl [2, 4, 5, 1, 0] rfl) ?_
        intro H locs ls hP hD hS hl
        refine lv_aload_n hx hb dX1_setGone_158 rfl (lv_at hl 0 rfl) ?_
        refine lv_iconst (v := 2) hx hb dX1_setGone_159 (by decide) ?_
        refine lv_iconst (v := 2) hx hb dX1_setGone_160 (by decide) ?_
        refine lv_iload_n hx hb dX1_setGone_161 rfl (lv_at hl 1 rfl) ?_
        refine lv_imul hx hb dX1_setGone_162 ?_
        obtain ⟨r163, h163r, hf⟩ := o_bs hf
        refine k_gov (va_runV (As := [.int 2, .int (2 * a3)]) (rest := []) ⟨hx, hb, hml, hown, hts⟩ (zX1_lower l D cy sa q rest H.size e76 2 (2 * a3) r163 h163r) (cwV 2 hts (gB_V wB527 wB528 wB529 wB32 wB530) rfl rfl rfl (by decide +kernel) ⟨Nat.le_of_ble_eq_true rfl, Nat.le_of_ble_eq_true rfl⟩) ⟨kP.blind, k_recv hE hP (ci := 1) (q0 := 21) rfl rfl, k_pre hP hD hS hE hA⟩ rfl rfl hl.1 rfl (lv_room (Nat.le_of_ble_eq_true rfl)) dX1_setGone_163 ⟨Nat.zero_le _, Nat.zero_le _⟩) hD hS hA (fun H locs hP hD hS => ?_)
        refine lv_aload_n hx hb dX1_setGone_166 rfl (lv_at hl 0 rfl) ?_
        refine lv_iconst (v := 5) hx hb dX1_setGone_167 (by decide) ?_
        refine lv_iload_n hx hb dX1_setGone_168 rfl (lv_at hl 1 rfl) ?_
        obtain ⟨r169, h169r, hf⟩ := o_bs hf
        refine k_gov (va_runV (As := [.int 5, .int a3]) (rest := []) ⟨hx, hb, hml, hown, hts⟩ (zX1_lower l D cy sa q rest H.size r163 5 a3 r169 h169r) (cwV 2 hts (gB_V wB527 wB528 wB529 wB32 wB530) rfl rfl rfl (by decide +kernel) ⟨Nat.le_of_ble_eq_true rfl, Nat.le_of_ble_eq_true rfl⟩) ⟨kP.blind, k_recv hE hP (ci := 1) (q0 := 21) rfl rfl, k_pre hP hD hS hE hA⟩ rfl rfl hl.1 rfl (lv_room (Nat.le_of_ble_eq_true rfl)) dX1_setGone_169 ⟨Nat.zero_le _, Nat.zero_le _⟩) hD hS hA (fun H locs hP hD hS => ?_)
        obtain rfl := o_ret hf
        exact k_vret hx hb hr hP hD hS (Nat.zero_le _) (Nat.zero_le _) hlocks dX1_setGone_172
      · have hf := o_ip c40 hf
        refine lv_lconst (v := 1) hx hb dX1_setGone_43 (by decide) ?_
        refine lv_goto (tgt := 48) hx hb dX1_setGone_44 (by decide) ?_
        obtain ⟨r48, h48r, hf⟩ := o_bs hf
        refine k_gov (va_runS (As := [.ref (q 26), .long 1]) (rest := []) ⟨hx, hb, hml, hown, hts⟩ (zX1_write l D cy sa (WX q cy (sA (sA u 4 r14) 5 r31) ++ rest) H.size 26 (q 26) 3 (gA u 6) 1 r48 rfl h48r) (va_cwS 2 hts (gB_S wB75 wB76 wB32 wB77) rfl rfl rfl (by decide +kernel) ⟨Nat.le_of_ble_eq_true rfl, Nat.le_of_ble_eq_true rfl⟩) ⟨kP.blind, k_pre hP hD hS hE hA⟩ rfl rfl hl.1 rfl (lv_room (Nat.le_of_ble_eq_true rfl)) dX1_setGone_48 ⟨Nat.zero_le _, Nat.zero_le _⟩) hD hS hA (fun H locs hP hD hS => ?_)
        have hQ : ∀ (xb : KS) (x0 : (Nat → Int64)) (x1 : (Nat → Int64)) (xn : (Nat → Int64)), (WX q cy (sA (sA xb 4 x0) 5 x1) ++ rest).set 26 (q 26, .inl (cy 1, 3, .inr (.inl xn))) = WX q cy (sA (sA (sA xb 4 x0) 5 x1) 6 xn) ++ rest := fun _ _ _ _ => rfl
        have hP : va_P D vwCl (WX q cy (sA (sA (sA u 4 r14) 5 r31) 6 r48) ++ rest) H := k_wP (hQ u r14 r31 r48) hP
        have hD : va_D A (WX q cy (sA (sA (sA u 4 r14) 5 r31) 6 r48) ++ rest) := k_wD (hQ u r14 r31 r48) hD
        clear hQ
        refine lv_aload_n hx hb dX1_setGone_51 rfl (lv_at hl 0 rfl) ?_
        refine va_get (ci := 1) (v := .ref (q 22)) (C := RX1) (T := TX1) (N := 5) hx hb hts inlX1 hown hE.1 hP 21 rfl rfl 0 (by decide) (hts _ wB70) (fun _ h9 => h9) rfl dX1_setGone_52 ?_
        refine lv_lconst (v := 0) hx hb dX1_setGone_55 (by decide) ?_
        obtain ⟨r56, h56r, hf⟩ := o_bs hf
        refine k_gov (va_runS (As := [.ref (q 22), .long 0]) (rest := []) ⟨hx, hb, hml, hown, hts⟩ (zX1_write l D cy sa (WX q cy (sA (sA (sA u 4 r14) 5 r31) 6 r48) ++ rest) H.size 22 (q 22) 3 (gA u 2) 0 r56 rfl h56r) (va_cwS 2 hts (gB_S wB75 wB76 wB32 wB77) rfl rfl rfl (by decide +kernel) ⟨Nat.le_of_ble_eq_true rfl, Nat.le_of_ble_eq_true rfl⟩) ⟨kP.blind, k_pre hP hD hS hE hA⟩ rfl rfl hl.1 rfl (lv_room (Nat.le_of_ble_eq_true rfl)) dX1_setGone_56 ⟨Nat.zero_le _, Nat.zero_le _⟩) hD hS hA (fun H locs hP hD hS => ?_)
        have hQ : ∀ (xb : KS) (x0 : (Nat → Int64)) (x1 : (Nat → Int64)) (x2 : (Nat → Int64)) (xn : (Nat → Int64)), (WX q cy (sA (sA (sA xb 4 x0) 5 x1) 6 x2) ++ rest).set 22 (q 22, .inl (cy 1, 3, .inr (.inl xn))) = WX q cy (sA (sA (sA (sA xb 2 xn) 4 x0) 5 x1) 6 x2) ++ rest := fun _ _ _ _ _ => rfl
        have hP : va_P D vwCl (WX q cy (sA (sA (sA (sA u 2 r56) 4 r14) 5 r31) 6 r48) ++ rest) H := k_wP (hQ u r14 r31 r48 r56) hP
        have hD : va_D A (WX q cy (sA (sA (sA (sA u 2 r56) 4 r14) 5 r31) 6 r48) ++ rest) := k_wD (hQ u r14 r31 r48 r56) hD
        clear hQ
        refine lv_aload_n hx hb dX1_setGone_59 rfl (lv_at hl 0 rfl) ?_
        refine va_get (ci := 1) (v := .ref (q 23)) (C := RX1) (T := TX1) (N := 5) hx hb hts inlX1 hown hE.1 hP 21 rfl rfl 1 (by decide) (hts _ wB71) (fun _ h9 => h9) rfl dX1_setGone_60 ?_
        refine lv_lconst (v := 1) hx hb dX1_setGone_63 (by decide) ?_
        obtain ⟨r64, h64r, hf⟩ := o_bs hf
        refine k_gov (va_runS (As := [.ref (q 23), .long 1]) (rest := []) ⟨hx, hb, hml, hown, hts⟩ (zX1_write l D cy sa (WX q cy (sA (sA (sA (sA u 2 r56) 4 r14) 5 r31) 6 r48) ++ rest) H.size 23 (q 23) 3 (gA u 3) 1 r64 rfl h64r) (va_cwS 2 hts (gB_S wB75 wB76 wB32 wB77) rfl rfl rfl (by decide +kernel) ⟨Nat.le_of_ble_eq_true rfl, Nat.le_of_ble_eq_true rfl⟩) ⟨kP.blind, k_pre hP hD hS hE hA⟩ rfl rfl hl.1 rfl (lv_room (Nat.le_of_ble_eq_true rfl)) dX1_setGone_64 ⟨Nat.zero_le _, Nat.zero_le _⟩) hD hS hA (fun H locs hP hD hS => ?_)
        have hQ : ∀ (xb : KS) (x0 : (Nat → Int64)) (x1 : (Nat → Int64)) (x2 : (Nat → Int64)) (x3 : (Nat → Int64)) (xn : (Nat → Int64)), (WX q cy (sA (sA (sA (sA xb 2 x0) 4 x1) 5 x2) 6 x3) ++ rest).set 23 (q 23, .inl (cy 1, 3, .inr (.inl xn))) = WX q cy (sA (sA (sA (sA (sA xb 2 x0) 3 xn) 4 x1) 5 x2) 6 x3) ++ rest := fun _ _ _ _ _ _ => rfl
        have hP : va_P D vwCl (WX q cy (sA (sA (sA (sA (sA u 2 r56) 3 r64) 4 r14) 5 r31) 6 r48) ++ rest) H := k_wP (hQ u r56 r14 r31 r48 r64) hP
        have hD : va_D A (WX q cy (sA (sA (sA (sA (sA u 2 r56) 3 r64) 4 r14) 5 r31) 6 r48) ++ rest) := k_wD (hQ u r56 r14 r31 r48 r64) hD
        clear hQ
        refine lv_bipush (v := 20) hx hb dX1_setGone_67 (by decide) ?_
        refine lv_iload_n hx hb dX1_setGone_69 rfl (lv_at hl 2 rfl) ?_
        refine lv_isub hx hb dX1_setGone_70 ?_
        refine lv_istore (lv' := [(4, .int (20 - a2)), (0, .ref (q 21)), (1, .int a1), (2, .int a2), (3, .int a3)]) hx hb dX1_setGone_71 hl (by decide) rfl (fun ls hl => ?_)
        refine lv_iconst (v := 0) hx hb dX1_setGone_73 (by decide) ?_
        refine lv_istore (lv' := [(5, .int 0), (4, .int (20 - a2)), (0, .ref (q 21)), (1, .int a1), (2, .int a2), (3, .int a3)]) hx hb dX1_setGone_74 hl (by decide) rfl (fun ls hl => ?_)
        have L76 : ∀ (n76v : Nat) (s76 : Int32 × KS) (e76 : KS), lpO (mX1_setGone_s76 a2 a3 (20 - a2)) n76v s76 = some e76 → ∀ (H : Heap) (locs : List Loc) (ls : Array Slot), va_P D vwCl (WX q cy s76.2 ++ rest) H → va_D A (WX q cy s76.2 ++ rest) → va_S A s.heap H locs → lv_has ls 6 [(0, .ref (q 21)), (2, .int a2), (3, .int a3), (4, .int (20 - a2)), (5, .int s76.1)] → (∀ (H : Heap) (locs : List Loc) (ls : Array Slot), va_P D vwCl (WX q cy e76 ++ rest) H → va_D A (WX q cy e76 ++ rest) → va_S A s.heap H locs → lv_has ls 6 [(0, .ref (q 21)), (3, .int a3)] → W p l e rmX1_setGone s m ([.ref (q 21), .int a1, .int a2, .int a3] : List Value).toArray below meth c H locs 0 0 (MQ below (kQv D A (WX q cy res ++ rest)) ([.ref (q 21), .int a1, .int a2, .int a3] : List Value).toArray s 0 0 A) (F0 m 158 ls [])) → W p l e rmX1_setGone s m ([.ref (q 21), .int a1, .int a2, .int a3] : List Value).toArray below meth c H locs 0 0 (MQ below (kQv D A (WX q cy res ++ rest)) ([.ref (q 21), .int a1, .int a2, .int a3] : List Value).toArray s 0 0 A) (F0 m 76 ls []) := by
          intro n76v
          induction n76v with
          | zero => intro s76 e76 h; exact (lpO_z h).elim
          | succ n76v ih76 =>
            intro s76 e76 h76z H locs ls hP hD hS hl K76_0
            obtain ⟨x76, hf, h76z⟩ := lpO_s h76z
            unfold mX1_setGone_s76 at hf
            refine lv_iload hx hb dX1_setGone_76 (lv_at hl 4 rfl) ?_
            refine lv_iload_n hx hb dX1_setGone_78 rfl (lv_at hl 2 rfl) ?_
            refine lv_icmp_ge (tgt := 158) hx hb dX1_setGone_79 (by decide) (fun c79 => ?_) (fun c79 => ?_)
            · have hf := o_ip c79 hf
              obtain rfl := o_ret hf
              obtain rfl := lpK_l h76z
              exact K76_0 _ _ _ hP hD hS (lv_sub hl [0, 2] rfl)
            · have hf := o_in c79 hf
              refine lv_aload_n hx hb dX1_setGone_82 rfl (lv_at hl 0 rfl) ?_
              refine va_get (ci := 1) (v := .ref (q 22)) (C := RX1) (T := TX1) (N := 5) hx hb hts inlX1 hown hE.1 hP 21 rfl rfl 0 (by decide) (hts _ wB70) (fun _ h9 => h9) rfl dX1_setGone_83 ?_
              refine lv_bipush (v := 20) hx hb dX1_setGone_86 (by decide) ?_
              refine lv_aload_n hx hb dX1_setGone_88 rfl (lv_at hl 0 rfl) ?_
              refine va_get (ci := 1) (v := .ref (q 26)) (C := RX1) (T := TX1) (N := 5) hx hb hts inlX1 hown hE.1 hP 21 rfl rfl 4 (by decide) (hts _ wB74) (fun _ h9 => h9) rfl dX1_setGone_89 ?_
              refine lv_iload_n hx hb dX1_setGone_92 rfl (lv_at hl 1 rfl) ?_
              obtain ⟨r93, h93r, hf⟩ := o_bs hf
              refine k_gov (va_runS (As := [.ref (q 22), .int 20, .ref (q 26), .int a2]) (rest := []) ⟨hx, hb, hml, hown, hts⟩ (zX1_mix l D cy sa (WX q cy s76.2 ++ rest) H.size 22 (q 22) 3 (gA s76.2 2) 26 (q 26) 3 (gA s76.2 6) 20 a2 r93 rfl rfl (by decide) h93r) (va_cwS 4 hts (gB_S wB524 wB525 wB32 wB526) rfl rfl rfl (by decide +kernel) ⟨Nat.le_of_ble_eq_true rfl, Nat.le_of_ble_eq_true rfl⟩) ⟨kP.blind, k_pre hP hD hS hE hA⟩ rfl rfl hl.1 rfl (lv_room (Nat.le_of_ble_eq_true rfl)) dX1_setGone_93 ⟨Nat.zero_le _, Nat.zero_le _⟩) hD hS hA (fun H locs hP hD hS => ?_)
              have hP : va_P D vwCl (WX q cy (sA s76.2 2 r93) ++ rest) H := hP
              have hD : va_D A (WX q cy (sA s76.2 2 r93) ++ rest) := hD
              refine lv_aload_n hx hb dX1_setGone_96 rfl (lv_at hl 0 rfl) ?_
              refine va_get (ci := 1) (v := .ref (q 26)) (C := RX1) (T := TX1) (N := 5) hx hb hts inlX1 hown hE.1 hP 21 rfl rfl 4 (by decide) (hts _ wB74) (fun _ h9 => h9) rfl dX1_setGone_97 ?_
              refine lv_iload hx hb dX1_setGone_100 (lv_at hl 3 rfl) ?_
              refine lv_aload_n hx hb dX1_setGone_102 rfl (lv_at hl 0 rfl) ?_
              refine va_get (ci := 1) (v := .ref (q 25)) (C := RX1) (T := TX1) (N := 5) hx hb hts inlX1 hown hE.1 hP 21 rfl rfl 3 (by decide) (hts _ wB73) (fun _ h9 => h9) rfl dX1_setGone_103 ?_
              refine lv_iload_n hx hb dX1_setGone_106 rfl (lv_at hl 1 rfl) ?_
              obtain ⟨r107, h107r, hf⟩ := o_bs hf
              refine k_gov (va_runS (As := [.ref (q 26), .int (20 - a2), .ref (q 25), .int a2]) (rest := []) ⟨hx, hb, hml, hown, hts⟩ (zX1_mix l D cy sa (WX q cy (sA s76.2 2 r93) ++ rest) H.size 26 (q 26) 3 (gA s76.2 6) 25 (q 25) 3 (gA s76.2 5) (20 - a2) a2 r107 rfl rfl (by decide) h107r) (va_cwS 4 hts (gB_S wB524 wB525 wB32 wB526) rfl rfl rfl (by decide +kernel) ⟨Nat.le_of_ble_eq_true rfl, Nat.le_of_ble_eq_true rfl⟩) ⟨kP.blind, k_pre hP hD hS hE hA⟩ rfl rfl hl.1 rfl (lv_room (Nat.le_of_ble_eq_true rfl)) dX1_setGone_107 ⟨Nat.zero_le _, Nat.zero_le _⟩) hD hS hA (fun H locs hP hD hS => ?_)
              have hQ : ∀ (xb : KS) (x0 : (Nat → Int64)) (xn : (Nat → Int64)), (WX q cy (sA xb 2 x0) ++ rest).set 26 (q 26, .inl (cy 1, 3, .inr (.inl xn))) = WX q cy (sA (sA xb 2 x0) 6 xn) ++ rest := fun _ _ _ => rfl
              have hP : va_P D vwCl (WX q cy (sA (sA s76.2 2 r93) 6 r107) ++ rest) H := k_wP (hQ s76.2 r93 r107) hP
              have hD : va_D A (WX q cy (sA (sA s76.2 2 r93) 6 r107) ++ rest) := k_wD (hQ s76.2 r93 r107) hD
              clear hQ
              refine lv_aload_n hx hb dX1_setGone_110 rfl (lv_at hl 0 rfl) ?_
              refine va_get (ci := 1) (v := .ref (q 25)) (C := RX1) (T := TX1) (N := 5) hx hb hts inlX1 hown hE.1 hP 21 rfl rfl 3 (by decide) (hts _ wB73) (fun _ h9 => h9) rfl dX1_setGone_111 ?_
              refine lv_iload hx hb dX1_setGone_114 (lv_at hl 3 rfl) ?_
              refine lv_aload_n hx hb dX1_setGone_116 rfl (lv_at hl 0 rfl) ?_
              refine va_get (ci := 1) (v := .ref (q 24)) (C := RX1) (T := TX1) (N := 5) hx hb hts inlX1 hown hE.1 hP 21 rfl rfl 2 (by decide) (hts _ wB72) (fun _ h9 => h9) rfl dX1_setGone_117 ?_
              refine lv_iload_n hx hb dX1_setGone_120 rfl (lv_at hl 1 rfl) ?_
              obtain ⟨r121, h121r, hf⟩ := o_bs hf
              refine k_gov (va_runS (As := [.ref (q 25), .int (20 - a2), .ref (q 24), .int a2]) (rest := []) ⟨hx, hb, hml, hown, hts⟩ (zX1_mix l D cy sa (WX q cy (sA (sA s76.2 2 r93) 6 r107) ++ rest) H.size 25 (q 25) 3 (gA s76.2 5) 24 (q 24) 3 (gA s76.2 4) (20 - a2) a2 r121 rfl rfl (by decide) h121r) (va_cwS 4 hts (gB_S wB524 wB525 wB32 wB526) rfl rfl rfl (by decide +kernel) ⟨Nat.le_of_ble_eq_true rfl, Nat.le_of_ble_eq_true rfl⟩) ⟨kP.blind, k_pre hP hD hS hE hA⟩ rfl rfl hl.1 rfl (lv_room (Nat.le_of_ble_eq_true rfl)) dX1_setGone_121 ⟨Nat.zero_le _, Nat.zero_le _⟩) hD hS hA (fun H locs hP hD hS => ?_)
              have hQ : ∀ (xb : KS) (x0 : (Nat → Int64)) (x1 : (Nat → Int64)) (xn : (Nat → Int64)), (WX q cy (sA (sA xb 2 x0) 6 x1) ++ rest).set 25 (q 25, .inl (cy 1, 3, .inr (.inl xn))) = WX q cy (sA (sA (sA xb 2 x0) 5 xn) 6 x1) ++ rest := fun _ _ _ _ => rfl
              have hP : va_P D vwCl (WX q cy (sA (sA (sA s76.2 2 r93) 5 r121) 6 r107) ++ rest) H := k_wP (hQ s76.2 r93 r107 r121) hP
              have hD : va_D A (WX q cy (sA (sA (sA s76.2 2 r93) 5 r121) 6 r107) ++ rest) := k_wD (hQ s76.2 r93 r107 r121) hD
              clear hQ
              refine lv_aload_n hx hb dX1_setGone_124 rfl (lv_at hl 0 rfl) ?_
              refine va_get (ci := 1) (v := .ref (q 24)) (C := RX1) (T := TX1) (N := 5) hx hb hts inlX1 hown hE.1 hP 21 rfl rfl 2 (by decide) (hts _ wB72) (fun _ h9 => h9) rfl dX1_setGone_125 ?_
              refine lv_iload hx hb dX1_setGone_128 (lv_at hl 3 rfl) ?_
              refine lv_aload_n hx hb dX1_setGone_130 rfl (lv_at hl 0 rfl) ?_
              refine va_get (ci := 1) (v := .ref (q 24)) (C := RX1) (T := TX1) (N := 5) hx hb hts inlX1 hown hE.1 hP 21 rfl rfl 2 (by decide) (hts _ wB72) (fun _ h9 => h9) rfl dX1_setGone_131 ?_
              refine lv_iconst (v := 0) hx hb dX1_setGone_134 (by decide) ?_
              obtain ⟨r135, h135r, hf⟩ := o_bs hf
              refine k_gov (va_runS (As := [.ref (q 24), .int (20 - a2), .ref (q 24), .int 0]) (rest := []) ⟨hx, hb, hml, hown, hts⟩ (zX1_mix_s l D cy sa (WX q cy (sA (sA (sA s76.2 2 r93) 5 r121) 6 r107) ++ rest) H.size 24 (q 24) 3 (gA s76.2 4) (20 - a2) 0 r135 rfl h135r) (va_cwS 4 hts (gB_S wB524 wB525 wB32 wB526) rfl rfl rfl (by decide +kernel) ⟨Nat.le_of_ble_eq_true rfl, Nat.le_of_ble_eq_true rfl⟩) ⟨kP.blind, k_pre hP hD hS hE hA⟩ rfl rfl hl.1 rfl (lv_room (Nat.le_of_ble_eq_true rfl)) dX1_setGone_135 ⟨Nat.zero_le _, Nat.zero_le _⟩) hD hS hA (fun H locs hP hD hS => ?_)
              have hQ : ∀ (xb : KS) (x0 : (Nat → Int64)) (x1 : (Nat → Int64)) (x2 : (Nat → Int64)) (xn : (Nat → Int64)), (WX q cy (sA (sA (sA xb 2 x0) 5 x1) 6 x2) ++ rest).set 24 (q 24, .inl (cy 1, 3, .inr (.inl xn))) = WX q cy (sA (sA (sA (sA xb 2 x0) 4 xn) 5 x1) 6 x2) ++ rest := fun _ _ _ _ _ => rfl
              have hP : va_P D vwCl (WX q cy (sA (sA (sA (sA s76.2 2 r93) 4 r135) 5 r121) 6 r107) ++ rest) H := k_wP (hQ s76.2 r93 r121 r107 r135) hP
              have hD : va_D A (WX q cy (sA (sA (sA (sA s76.2 2 r93) 4 r135) 5 r121) 6 r107) ++ rest) := k_wD (hQ s76.2 r93 r121 r107 r135) hD
              clear hQ
              refine lv_aload_n hx hb dX1_setGone_138 rfl (lv_at hl 0 rfl) ?_
              refine va_get (ci := 1) (v := .ref (q 23)) (C := RX1) (T := TX1) (N := 5) hx hb hts inlX1 hown hE.1 hP 21 rfl rfl 1 (by decide) (hts _ wB71) (fun _ h9 => h9) rfl dX1_setGone_139 ?_
              refine lv_bipush (v := 20) hx hb dX1_setGone_142 (by decide) ?_
              refine lv_aload_n hx hb dX1_setGone_144 rfl (lv_at hl 0 rfl) ?_
              refine va_get (ci := 1) (v := .ref (q 23)) (C := RX1) (T := TX1) (N := 5) hx hb hts inlX1 hown hE.1 hP 21 rfl rfl 1 (by decide) (hts _ wB71) (fun _ h9 => h9) rfl dX1_setGone_145 ?_
              refine lv_iconst (v := 0) hx hb dX1_setGone_148 (by decide) ?_
              obtain ⟨r149, h149r, hf⟩ := o_bs hf
              refine k_gov (va_runS (As := [.ref (q 23), .int 20, .ref (q 23), .int 0]) (rest := []) ⟨hx, hb, hml, hown, hts⟩ (zX1_mix_s l D cy sa (WX q cy (sA (sA (sA (sA s76.2 2 r93) 4 r135) 5 r121) 6 r107) ++ rest) H.size 23 (q 23) 3 (gA s76.2 3) 20 0 r149 rfl h149r) (va_cwS 4 hts (gB_S wB524 wB525 wB32 wB526) rfl rfl rfl (by decide +kernel) ⟨Nat.le_of_ble_eq_true rfl, Nat.le_of_ble_eq_true rfl⟩) ⟨kP.blind, k_pre hP hD hS hE hA⟩ rfl rfl hl.1 rfl (lv_room (Nat.le_of_ble_eq_true rfl)) dX1_setGone_149 ⟨Nat.zero_le _, Nat.zero_le _⟩) hD hS hA (fun H locs hP hD hS => ?_)
              have hQ : ∀ (xb : KS) (x0 : (Nat → Int64)) (x1 : (Nat → Int64)) (x2 : (Nat → Int64)) (x3 : (Nat → Int64)) (xn : (Nat → Int64)), (WX q cy (sA (sA (sA (sA xb 2 x0) 4 x1) 5 x2) 6 x3) ++ rest).set 23 (q 23, .inl (cy 1, 3, .inr (.inl xn))) = WX q cy (sA (sA (sA (sA (sA xb 2 x0) 3 xn) 4 x1) 5 x2) 6 x3) ++ rest := fun _ _ _ _ _ _ => rfl
              have hP : va_P D vwCl (WX q cy (sA (sA (sA (sA (sA s76.2 2 r93) 3 r149) 4 r135) 5 r121) 6 r107) ++ rest) H := k_wP (hQ s76.2 r93 r135 r121 r107 r149) hP
              have hD : va_D A (WX q cy (sA (sA (sA (sA (sA s76.2 2 r93) 3 r149) 4 r135) 5 r121) 6 r107) ++ rest) := k_wD (hQ s76.2 r93 r135 r121 r107 r149) hD
              clear hQ
              refine lv_iinc (v := (s76.1 + 1)) (lv' := [(5, .int (s76.1 + 1)), (0, .ref (q 21)), (2, .int a2), (3, .int a3), (4, .int (20 - a2))]) hx hb dX1_setGone_152 hl (k := 4) rfl (by rfl) (by decide) rfl (fun ls hl => ?_)
              refine lv_goto (tgt := 76) hx hb dX1_setGone_155 (by decide) ?_
              obtain rfl := o_ret hf
              exact ih76 _ _ (lpK_r h76z) _ _ _ hP hD hS (lv_sub hl [1, 2, 3, 4, 0] rfl) K76_0
        obtain ⟨e76, h76q, hf⟩ := o_bs hf
        obtain ⟨n76v, h76q⟩ := lpF_ex h76q
        refine L76 n76v _ e76 h76q _ _ _ hP hD hS (lv_sub hl [2, 4, 5, 1, 0] rfl) ?_
        intro H locs ls hP hD hS hl
        refine lv_aload_n hx hb dX1_setGone_158 rfl (lv_at hl 0 rfl) ?_
        refine lv_iconst (v := 2) hx hb dX1_setGone_159 (by decide) ?_
        refine lv_iconst (v := 2) hx hb dX1_setGone_160 (by decide) ?_
        refine lv_iload_n hx hb dX1_setGone_161 rfl (lv_at hl 1 rfl) ?_
        refine lv_imul hx hb dX1_setGone_162 ?_
        obtain ⟨r163, h163r, hf⟩ := o_bs hf
        refine k_gov (va_runV (As := [.int 2, .int (2 * a3)]) (rest := []) ⟨hx, hb, hml, hown, hts⟩ (zX1_lower l D cy sa q rest H.size e76 2 (2 * a3) r163 h163r) (cwV 2 hts (gB_V wB527 wB528 wB529 wB32 wB530) rfl rfl rfl (by decide +kernel) ⟨Nat.le_of_ble_eq_true rfl, Nat.le_of_ble_eq_true rfl⟩) ⟨kP.blind, k_recv hE hP (ci := 1) (q0 := 21) rfl rfl, k_pre hP hD hS hE hA⟩ rfl rfl hl.1 rfl (lv_room (Nat.le_of_ble_eq_true rfl)) dX1_setGone_163 ⟨Nat.zero_le _, Nat.zero_le _⟩) hD hS hA (fun H locs hP hD hS => ?_)
        refine lv_aload_n hx hb dX1_setGone_166 rfl (lv_at hl 0 rfl) ?_
        refine lv_iconst (v := 5) hx hb dX1_setGone_167 (by decide) ?_
        refine lv_iload_n hx hb dX1_setGone_168 rfl (lv_at hl 1 rfl) ?_
        obtain ⟨r169, h169r, hf⟩ := o_bs hf
        refine k_gov (va_runV (As := [.int 5, .int a3]) (rest := []) ⟨hx, hb, hml, hown, hts⟩ (zX1_lower l D cy sa q rest H.size r163 5 a3 r169 h169r) (cwV 2 hts (gB_V wB527 wB528 wB529 wB32 wB530) rfl rfl rfl (by decide +kernel) ⟨Nat.le_of_ble_eq_true rfl, Nat.le_of_ble_eq_true rfl⟩) ⟨kP.blind, k_recv hE hP (ci := 1) (q0 := 21) rfl rfl, k_pre hP hD hS hE hA⟩ rfl rfl hl.1 rfl (lv_room (Nat.le_of_ble_eq_true rfl)) dX1_setGone_169 ⟨Nat.zero_le _, Nat.zero_le _⟩) hD hS hA (fun H locs hP hD hS => ?_)
        obtain rfl := o_ret hf
        exact k_vret hx hb hr hP hD hS (Nat.zero_le _) (Nat.zero_le _) hlocks dX1_setGone_172
noncomputable def mX1_setShare (u : KS) (a1 : Int64) (a3 : Int64) : Option (KS) :=
  (mX1_commonOf a3 a1).bind fun r2 =>
  if (lg_cmp r2 0) ≤ 0 then
  (some u)
  else
  (gd (¬ r2 = (0 : Int64)) ((mX1_write 3 (gA u 2) (a1 / r2)).bind fun r22 =>
  gd (¬ r2 = (0 : Int64)) ((mX1_write 3 (gA u 3) (a3 / r2)).bind fun r33 =>
  some (sA (sA u 2 r22) 3 r33))))
abbrev rmX1_setShare : Room := { frames := 1, cells := 0, slots := 0, locals := 30 }
set_option maxRecDepth 100000 in
set_option maxHeartbeats 4000000 in
theorem zX1_setShare (l : Launch) (D : va_G) (cy : Nat → ClassId) (sa : Nat → Nat) (q : Nat → Nat) (rest : va_W) (sz : Nat) (u : KS) (a1 : Int64) (a3 : Int64) (res : KS) (hf : mX1_setShare u a1 a3 = some res) : kMv l yX1_setShare (wsK yX1_setShare cX1_setShare 7 none) rmX1_setShare D cy sa (WX q cy u ++ rest) sz [.ref (q 21), .long a1, .long a3] (WX q cy res ++ rest) 0 0 := by
  refine kM_of (Qc := fun A => kQv D A (WX q cy res ++ rest)) (cc := cX1_setShare) (maxL := 7) (ret := none) (by decide) (Nat.le_of_ble_eq_true rfl) ?_
  intro p e s m below meth c A hx hb hml hr hts hown hlocks hin hA hP hD hS hE hsz ls hl
  have hown : s.vm.findClass RX1 = some m.cls := hown
  obtain ⟨H, hH0⟩ : ∃ H, H = s.heap := ⟨_, rfl⟩
  obtain ⟨locs, hlocs0⟩ : ∃ locs : List Loc, locs = [] := ⟨_, rfl⟩
  have hP : va_P D vwCl (WX q cy u ++ rest) H := by rw [hH0]; exact hP
  have hS : va_S A s.heap H locs := by rw [hH0, hlocs0]; exact hS
  have hl : lv_has ls 7 [(0, .ref (q 21)), (1, .long a1), (3, .long a3)] := hl
  suffices hgoal : W p l e rmX1_setShare s m ([.ref (q 21), .long a1, .long a3] : List Value).toArray below meth c H locs 0 0 (MQ below (kQv D A (WX q cy res ++ rest)) ([.ref (q 21), .long a1, .long a3] : List Value).toArray s 0 0 A) (F0 m 0 ls []) by rw [hH0, hlocs0] at hgoal; exact hgoal
  clear hH0 hlocs0
  unfold mX1_setShare at hf
  refine lv_lload_n hx hb dX1_setShare_0 rfl (lv_at hl 2 rfl) ?_
  refine lv_lload_n hx hb dX1_setShare_1 rfl (lv_at hl 1 rfl) ?_
  obtain ⟨r2, h2r, hf⟩ := o_bs hf
  refine k_gol (va_runS (As := [.long a3, .long a1]) (rest := []) ⟨hx, hb, hml, hown, hts⟩ (zX1_commonOf l D cy sa (WX q cy u ++ rest) H.size a3 a1  r2  h2r) (va_cwS 2 hts (gB_S wB427 wB428 wB32 wB429) rfl rfl rfl (by decide +kernel) ⟨Nat.le_of_ble_eq_true rfl, Nat.le_of_ble_eq_true rfl⟩) ⟨kP.blind, k_pre hP hD hS hE hA⟩ rfl rfl hl.1 rfl (lv_room (Nat.le_of_ble_eq_true rfl)) dX1_setShare_2 ⟨Nat.zero_le _, Nat.zero_le _⟩) hD hS hA (fun H locs hP hD hS => ?_)
  refine lv_lstore (lv' := [(5, .long r2), (0, .ref (q 21)), (1, .long a1), (3, .long a3)]) hx hb dX1_setShare_5 hl (by decide) rfl (fun ls hl => ?_)
  refine lv_lload hx hb dX1_setShare_7 (lv_at hl 0 rfl) ?_
  refine lv_lconst (v := 0) hx hb dX1_setShare_9 (by decide) ?_
  refine W.lcmp hx hb dX1_setShare_10 ?_
  refine lv_if_le (tgt := 36) hx hb dX1_setShare_11 (by decide) (fun c11 => ?_) (fun c11 => ?_)
  · have hf := o_ip c11 hf
    obtain rfl := o_ret hf
    exact k_vret hx hb hr hP hD hS (Nat.zero_le _) (Nat.zero_le _) hlocks dX1_setShare_36
  · have hf := o_in c11 hf
    refine lv_aload_n hx hb dX1_setShare_14 rfl (lv_at hl 1 rfl) ?_
    refine va_get (ci := 1) (v := .ref (q 22)) (C := RX1) (T := TX1) (N := 5) hx hb hts inlX1 hown hE.1 hP 21 rfl rfl 0 (by decide) (hts _ wB70) (fun _ h9 => h9) rfl dX1_setShare_15 ?_
    refine lv_lload_n hx hb dX1_setShare_18 rfl (lv_at hl 2 rfl) ?_
    refine lv_lload hx hb dX1_setShare_19 (lv_at hl 0 rfl) ?_
    obtain ⟨hg21, hf⟩ := gd_s hf
    refine lv_ldiv hx hb dX1_setShare_21 hg21 ?_
    obtain ⟨r22, h22r, hf⟩ := o_bs hf
    refine k_gov (va_runS (As := [.ref (q 22), .long (a1 / r2)]) (rest := []) ⟨hx, hb, hml, hown, hts⟩ (zX1_write l D cy sa (WX q cy u ++ rest) H.size 22 (q 22) 3 (gA u 2) (a1 / r2) r22 rfl h22r) (va_cwS 2 hts (gB_S wB75 wB76 wB32 wB77) rfl rfl rfl (by decide +kernel) ⟨Nat.le_of_ble_eq_true rfl, Nat.le_of_ble_eq_true rfl⟩) ⟨kP.blind, k_pre hP hD hS hE hA⟩ rfl rfl hl.1 rfl (lv_room (Nat.le_of_ble_eq_true rfl)) dX1_setShare_22 ⟨Nat.zero_le _, Nat.zero_le _⟩) hD hS hA (fun H locs hP hD hS => ?_)
    have hP : va_P D vwCl (WX q cy (sA u 2 r22) ++ rest) H := hP
    have hD : va_D A (WX q cy (sA u 2 r22) ++ rest) := hD
    refine lv_aload_n hx hb dX1_setShare_25 rfl (lv_at hl 1 rfl) ?_
    refine va_get (ci := 1) (v := .ref (q 23)) (C := RX1) (T := TX1) (N := 5) hx hb hts inlX1 hown hE.1 hP 21 rfl rfl 1 (by decide) (hts _ wB71) (fun _ h9 => h9) rfl dX1_setShare_26 ?_
    refine lv_lload_n hx hb dX1_setShare_29 rfl (lv_at hl 3 rfl) ?_
    refine lv_lload hx hb dX1_setShare_30 (lv_at hl 0 rfl) ?_
    obtain ⟨hg32, hf⟩ := gd_s hf
    refine lv_ldiv hx hb dX1_setShare_32 hg32 ?_
    obtain ⟨r33, h33r, hf⟩ := o_bs hf
    refine k_gov (va_runS (As := [.ref (q 23), .long (a3 / r2)]) (rest := []) ⟨hx, hb, hml, hown, hts⟩ (zX1_write l D cy sa (WX q cy (sA u 2 r22) ++ rest) H.size 23 (q 23) 3 (gA u 3) (a3 / r2) r33 rfl h33r) (va_cwS 2 hts (gB_S wB75 wB76 wB32 wB77) rfl rfl rfl (by decide +kernel) ⟨Nat.le_of_ble_eq_true rfl, Nat.le_of_ble_eq_true rfl⟩) ⟨kP.blind, k_pre hP hD hS hE hA⟩ rfl rfl hl.1 rfl (lv_room (Nat.le_of_ble_eq_true rfl)) dX1_setShare_33 ⟨Nat.zero_le _, Nat.zero_le _⟩) hD hS hA (fun H locs hP hD hS => ?_)
    have hQ : ∀ (xb : KS) (x0 : (Nat → Int64)) (xn : (Nat → Int64)), (WX q cy (sA xb 2 x0) ++ rest).set 23 (q 23, .inl (cy 1, 3, .inr (.inl xn))) = WX q cy (sA (sA xb 2 x0) 3 xn) ++ rest := fun _ _ _ => rfl
    have hP : va_P D vwCl (WX q cy (sA (sA u 2 r22) 3 r33) ++ rest) H := k_wP (hQ u r22 r33) hP
    have hD : va_D A (WX q cy (sA (sA u 2 r22) 3 r33) ++ rest) := k_wD (hQ u r22 r33) hD
    clear hQ
    obtain rfl := o_ret hf
    exact k_vret hx hb hr hP hD hS (Nat.zero_le _) (Nat.zero_le _) hlocks dX1_setShare_36
noncomputable def mX2_addUpPair_s45 (c2 : Int32) (c3 : Int32) (c6 : Int32) (c7 : Int32) (c8 : Int32) (c10 : Int32) (s45 : Int32 × Int32 × KS) : Option (((Int32 × KS)) ⊕ (Int32 × Int32 × KS)) :=
  if c10 ≤ s45.2.1 then
  (some (.inl (s45.1, s45.2.2)))
  else
  (gd (inb s45.2.1 21) (if c2 = 0 then
  (if c3 = 0 then
  ((mX5_set 2731 (gR s45.2.2 12) s45.1 (c8 + ((gR s45.2.2 11) (s45.2.1.toNatClampNeg)))).bind fun r86 =>
  some (.inr ((s45.1 + 1), (s45.2.1 + 1), (sR s45.2.2 12 r86))))
  else
  ((mX5_set 2731 (gR s45.2.2 12) s45.1 (c8 + 0)).bind fun r86 =>
  some (.inr ((s45.1 + 1), (s45.2.1 + 1), (sR s45.2.2 12 r86)))))
  else
  (if c3 = 0 then
  ((mX5_set 2731 (gR s45.2.2 12) s45.1 (0 + ((gR s45.2.2 11) (s45.2.1.toNatClampNeg)))).bind fun r86 =>
  some (.inr ((s45.1 + 1), (s45.2.1 + 1), (sR s45.2.2 12 r86))))
  else
  ((mX5_set 2731 (gR s45.2.2 12) s45.1 (0 + 0)).bind fun r86 =>
  some (.inr ((s45.1 + 1), (s45.2.1 + 1), (sR s45.2.2 12 r86)))))))
noncomputable def mX2_addUpPair_s17 (c2 : Int32) (c3 : Int32) (c6 : Int32) (s17 : Int32 × Int32 × KS) : Option ((KS) ⊕ (Int32 × Int32 × KS)) :=
  if c6 ≤ s17.2.1 then
  (some (.inl s17.2.2))
  else
  (gd (inb s17.2.1 21) ((lpF (mX2_addUpPair_s45 c2 c3 c6 s17.2.1 ((gR s17.2.2 11) (s17.2.1.toNatClampNeg)) 21) (s17.1, 0, s17.2.2)).bind fun e45 =>
  some (.inr (e45.1, (s17.2.1 + 1), e45.2))))
noncomputable def mX2_addUpPair (u : KS) (a1 : Int32) (a2 : Int32) (a3 : Int32) : Option (KS) :=
  (lpF (mX2_addUpPair_s17 a2 a3 21) (a1, 0, u)).bind fun e17 =>
  some e17
abbrev rmX2_addUpPair : Room := { frames := 1, cells := 0, slots := 0, locals := 22 }
set_option maxRecDepth 100000 in
set_option maxHeartbeats 4000000 in
theorem zX2_addUpPair (l : Launch) (D : va_G) (cy : Nat → ClassId) (sa : Nat → Nat) (q : Nat → Nat) (rest : va_W) (sz : Nat) (u : KS) (a1 : Int32) (a2 : Int32) (a3 : Int32) (res : KS) (hf : mX2_addUpPair u a1 a2 a3 = some res) : kMv l yX2_addUpPair (wsK yX2_addUpPair cX2_addUpPair 13 none) rmX2_addUpPair D cy sa (WX q cy u ++ rest) sz [.ref (q 15), .int a1, .int a2, .int a3] (WX q cy res ++ rest) 0 0 := by
  refine kM_of (Qc := fun A => kQv D A (WX q cy res ++ rest)) (cc := cX2_addUpPair) (maxL := 13) (ret := none) (by decide) (Nat.le_of_ble_eq_true rfl) ?_
  intro p e s m below meth c A hx hb hml hr hts hown hlocks hin hA hP hD hS hE hsz ls hl
  have hown : s.vm.findClass RX2 = some m.cls := hown
  obtain ⟨H, hH0⟩ : ∃ H, H = s.heap := ⟨_, rfl⟩
  obtain ⟨locs, hlocs0⟩ : ∃ locs : List Loc, locs = [] := ⟨_, rfl⟩
  have hP : va_P D vwCl (WX q cy u ++ rest) H := by rw [hH0]; exact hP
  have hS : va_S A s.heap H locs := by rw [hH0, hlocs0]; exact hS
  have hl : lv_has ls 13 [(0, .ref (q 15)), (1, .int a1), (2, .int a2), (3, .int a3)] := hl
  suffices hgoal : W p l e rmX2_addUpPair s m ([.ref (q 15), .int a1, .int a2, .int a3] : List Value).toArray below meth c H locs 0 0 (MQ below (kQv D A (WX q cy res ++ rest)) ([.ref (q 15), .int a1, .int a2, .int a3] : List Value).toArray s 0 0 A) (F0 m 0 ls []) by rw [hH0, hlocs0] at hgoal; exact hgoal
  clear hH0 hlocs0
  unfold mX2_addUpPair at hf
  refine lv_iload_n hx hb dX2_addUpPair_0 rfl (lv_at hl 1 rfl) ?_
  refine lv_istore (lv' := [(4, .int a1), (0, .ref (q 15)), (1, .int a1), (2, .int a2), (3, .int a3)]) hx hb dX2_addUpPair_1 hl (by decide) rfl (fun ls hl => ?_)
  refine lv_aload_n hx hb dX2_addUpPair_3 rfl (lv_at hl 1 rfl) ?_
  refine va_get (ci := 2) (v := .ref (q 16)) (C := RX2) (T := TX2) (N := 4) hx hb hts inlX2 hown hE.1 hP 15 rfl rfl 1 (by decide) (hts _ wB58) (fun _ h9 => h9) rfl dX2_addUpPair_4 ?_
  refine lv_astore (lv' := [(5, .ref (q 16)), (4, .int a1), (0, .ref (q 15)), (1, .int a1), (2, .int a2), (3, .int a3)]) hx hb dX2_addUpPair_7 hl (by decide) rfl (fun ls hl => ?_)
  refine lv_aload hx hb dX2_addUpPair_9 (lv_at hl 0 rfl) ?_
  refine va_alen (v := 21) hx hb hE.1 hP 16 0 rfl rfl rfl dX2_addUpPair_11 ?_
  refine lv_istore (lv' := [(6, .int 21), (5, .ref (q 16)), (4, .int a1), (0, .ref (q 15)), (1, .int a1), (2, .int a2), (3, .int a3)]) hx hb dX2_addUpPair_12 hl (by decide) rfl (fun ls hl => ?_)
  refine lv_iconst (v := 0) hx hb dX2_addUpPair_14 (by decide) ?_
  refine lv_istore (lv' := [(7, .int 0), (6, .int 21), (5, .ref (q 16)), (4, .int a1), (0, .ref (q 15)), (1, .int a1), (2, .int a2), (3, .int a3)]) hx hb dX2_addUpPair_15 hl (by decide) rfl (fun ls hl => ?_)
  have L17 : ∀ (n17v : Nat) (s17 : Int32 × Int32 × KS) (e17 : KS), lpO (mX2_addUpPair_s17 a2 a3 21) n17v s17 = some e17 → ∀ (H : Heap) (locs : List Loc) (ls : Array Slot), va_P D vwCl (WX q cy s17.2.2 ++ rest) H → va_D A (WX q cy s17.2.2 ++ rest) → va_S A s.heap H locs → lv_has ls 13 [(0, .ref (q 15)), (2, .int a2), (3, .int a3), (4, .int s17.1), (5, .ref (q 16)), (6, .int 21), (7, .int s17.2.1)] → (∀ (H : Heap) (locs : List Loc) (ls : Array Slot), va_P D vwCl (WX q cy e17 ++ rest) H → va_D A (WX q cy e17 ++ rest) → va_S A s.heap H locs → lv_has ls 13 [] → W p l e rmX2_addUpPair s m ([.ref (q 15), .int a1, .int a2, .int a3] : List Value).toArray below meth c H locs 0 0 (MQ below (kQv D A (WX q cy res ++ rest)) ([.ref (q 15), .int a1, .int a2, .int a3] : List Value).toArray s 0 0 A) (F0 m 104 ls [])) → W p l e rmX2_addUpPair s m ([.ref (q 15), .int a1, .int a2, .int a3] : List Value).toArray below meth c H locs 0 0 (MQ below (kQv D A (WX q cy res ++ rest)) ([.ref (q 15), .int a1, .int a2, .int a3] : List Value).toArray s 0 0 A) (F0 m 17 ls []) := by
    intro n17v
    induction n17v with
    | zero => intro s17 e17 h; exact (lpO_z h).elim
    | succ n17v ih17 =>
      intro s17 e17 h17z H locs ls hP hD hS hl K17_0
      obtain ⟨x17, hf, h17z⟩ := lpO_s h17z
      unfold mX2_addUpPair_s17 at hf
      refine lv_iload hx hb dX2_addUpPair_17 (lv_at hl 6 rfl) ?_
      refine lv_iload hx hb dX2_addUpPair_19 (lv_at hl 5 rfl) ?_
      refine lv_icmp_ge (tgt := 104) hx hb dX2_addUpPair_21 (by decide) (fun c21 => ?_) (fun c21 => ?_)
      · have hf := o_ip c21 hf
        obtain rfl := o_ret hf
        obtain rfl := lpK_l h17z
        exact K17_0 _ _ _ hP hD hS (lv_sub hl [] rfl)
      · have hf := o_in c21 hf
        refine lv_aload hx hb dX2_addUpPair_24 (lv_at hl 4 rfl) ?_
        refine lv_iload hx hb dX2_addUpPair_26 (lv_at hl 6 rfl) ?_
        obtain ⟨hg28, hf⟩ := gd_s hf
        refine va_iald (f := (gR s17.2.2 11)) hx hb hE.1 hP 16 0 rfl rfl hg28 dX2_addUpPair_28 ?_
        refine lv_istore (lv' := [(8, .int ((gR s17.2.2 11) (s17.2.1.toNatClampNeg))), (0, .ref (q 15)), (2, .int a2), (3, .int a3), (4, .int s17.1), (5, .ref (q 16)), (6, .int 21), (7, .int s17.2.1)]) hx hb dX2_addUpPair_29 hl (by decide) rfl (fun ls hl => ?_)
        refine lv_aload_n hx hb dX2_addUpPair_31 rfl (lv_at hl 1 rfl) ?_
        refine va_get (ci := 2) (v := .ref (q 16)) (C := RX2) (T := TX2) (N := 4) hx hb hts inlX2 hown hE.1 hP 15 rfl rfl 1 (by decide) (hts _ wB58) (fun _ h9 => h9) rfl dX2_addUpPair_32 ?_
        refine lv_astore (lv' := [(9, .ref (q 16)), (8, .int ((gR s17.2.2 11) (s17.2.1.toNatClampNeg))), (0, .ref (q 15)), (2, .int a2), (3, .int a3), (4, .int s17.1), (5, .ref (q 16)), (6, .int 21), (7, .int s17.2.1)]) hx hb dX2_addUpPair_35 hl (by decide) rfl (fun ls hl => ?_)
        refine lv_aload hx hb dX2_addUpPair_37 (lv_at hl 0 rfl) ?_
        refine va_alen (v := 21) hx hb hE.1 hP 16 0 rfl rfl rfl dX2_addUpPair_39 ?_
        refine lv_istore (lv' := [(10, .int 21), (9, .ref (q 16)), (8, .int ((gR s17.2.2 11) (s17.2.1.toNatClampNeg))), (0, .ref (q 15)), (2, .int a2), (3, .int a3), (4, .int s17.1), (5, .ref (q 16)), (6, .int 21), (7, .int s17.2.1)]) hx hb dX2_addUpPair_40 hl (by decide) rfl (fun ls hl => ?_)
        refine lv_iconst (v := 0) hx hb dX2_addUpPair_42 (by decide) ?_
        refine lv_istore (lv' := [(11, .int 0), (10, .int 21), (9, .ref (q 16)), (8, .int ((gR s17.2.2 11) (s17.2.1.toNatClampNeg))), (0, .ref (q 15)), (2, .int a2), (3, .int a3), (4, .int s17.1), (5, .ref (q 16)), (6, .int 21), (7, .int s17.2.1)]) hx hb dX2_addUpPair_43 hl (by decide) rfl (fun ls hl => ?_)
        have L45 : ∀ (n45v : Nat) (s45 : Int32 × Int32 × KS) (e45 : (Int32 × KS)), lpO (mX2_addUpPair_s45 a2 a3 21 s17.2.1 ((gR s17.2.2 11) (s17.2.1.toNatClampNeg)) 21) n45v s45 = some e45 → ∀ (H : Heap) (locs : List Loc) (ls : Array Slot), va_P D vwCl (WX q cy s45.2.2 ++ rest) H → va_D A (WX q cy s45.2.2 ++ rest) → va_S A s.heap H locs → lv_has ls 13 [(0, .ref (q 15)), (2, .int a2), (3, .int a3), (4, .int s45.1), (5, .ref (q 16)), (6, .int 21), (7, .int s17.2.1), (8, .int ((gR s17.2.2 11) (s17.2.1.toNatClampNeg))), (9, .ref (q 16)), (10, .int 21), (11, .int s45.2.1)] → (∀ (H : Heap) (locs : List Loc) (ls : Array Slot), va_P D vwCl (WX q cy e45.2 ++ rest) H → va_D A (WX q cy e45.2 ++ rest) → va_S A s.heap H locs → lv_has ls 13 [(0, .ref (q 15)), (2, .int a2), (3, .int a3), (4, .int e45.1), (5, .ref (q 16)), (6, .int 21), (7, .int s17.2.1)] → W p l e rmX2_addUpPair s m ([.ref (q 15), .int a1, .int a2, .int a3] : List Value).toArray below meth c H locs 0 0 (MQ below (kQv D A (WX q cy res ++ rest)) ([.ref (q 15), .int a1, .int a2, .int a3] : List Value).toArray s 0 0 A) (F0 m 98 ls [])) → W p l e rmX2_addUpPair s m ([.ref (q 15), .int a1, .int a2, .int a3] : List Value).toArray below meth c H locs 0 0 (MQ below (kQv D A (WX q cy res ++ rest)) ([.ref (q 15), .int a1, .int a2, .int a3] : List Value).toArray s 0 0 A) (F0 m 45 ls []) := by
          intro n45v
          induction n45v with
          | zero => intro s45 e45 h; exact (lpO_z h).elim
          | succ n45v ih45 =>
            intro s45 e45 h45z H locs ls hP hD hS hl K45_0
            obtain ⟨x45, hf, h45z⟩ := lpO_s h45z
            unfold mX2_addUpPair_s45 at hf
            refine lv_iload hx hb dX2_addUpPair_45 (lv_at hl 10 rfl) ?_
            refine lv_iload hx hb dX2_addUpPair_47 (lv_at hl 9 rfl) ?_
            refine lv_icmp_ge (tgt := 98) hx hb dX2_addUpPair_49 (by decide) (fun c49 => ?_) (fun c49 => ?_)
            · have hf := o_ip c49 hf
              obtain rfl := o_ret hf
              obtain rfl := lpK_l h45z
              exact K45_0 _ _ _ hP hD hS (lv_sub hl [0, 1, 2, 3, 4, 5, 6] rfl)
            · have hf := o_in c49 hf
              refine lv_aload hx hb dX2_addUpPair_52 (lv_at hl 8 rfl) ?_
              refine lv_iload hx hb dX2_addUpPair_54 (lv_at hl 10 rfl) ?_
              obtain ⟨hg56, hf⟩ := gd_s hf
              refine va_iald (f := (gR s45.2.2 11)) hx hb hE.1 hP 16 0 rfl rfl hg56 dX2_addUpPair_56 ?_
              refine lv_istore (lv' := [(12, .int ((gR s45.2.2 11) (s45.2.1.toNatClampNeg))), (0, .ref (q 15)), (2, .int a2), (3, .int a3), (4, .int s45.1), (5, .ref (q 16)), (6, .int 21), (7, .int s17.2.1), (8, .int ((gR s17.2.2 11) (s17.2.1.toNatClampNeg))), (9, .ref (q 16)), (10, .int 21), (11, .int s45.2.1)]) hx hb dX2_addUpPair_57 hl (by decide) rfl (fun ls hl => ?_)
              refine lv_aload_n hx hb dX2_addUpPair_59 rfl (lv_at hl 1 rfl) ?_
              refine va_get (ci := 2) (v := .ref (q 18)) (C := RX2) (T := TX2) (N := 4) hx hb hts inlX2 hown hE.1 hP 15 rfl rfl 3 (by decide) (hts _ wB61) (fun _ h9 => h9) rfl dX2_addUpPair_60 ?_
              refine lv_iload hx hb dX2_addUpPair_63 (lv_at hl 4 rfl) ?_
              refine lv_iload_n hx hb dX2_addUpPair_65 rfl (lv_at hl 2 rfl) ?_
              refine lv_if_eq (tgt := 73) hx hb dX2_addUpPair_66 (by decide) (fun c66 => ?_) (fun c66 => ?_)
              · have hf := o_ip c66 hf
                refine lv_iload hx hb dX2_addUpPair_73 (lv_at hl 8 rfl) ?_
                refine lv_iload_n hx hb dX2_addUpPair_75 rfl (lv_at hl 3 rfl) ?_
                refine lv_if_eq (tgt := 83) hx hb dX2_addUpPair_76 (by decide) (fun c76 => ?_) (fun c76 => ?_)
                · have hf := o_ip c76 hf
                  refine lv_iload hx hb dX2_addUpPair_83 (lv_at hl 0 rfl) ?_
                  refine lv_iadd hx hb dX2_addUpPair_85 ?_
                  obtain ⟨r86, h86r, hf⟩ := o_bs hf
                  refine k_gov (va_runSN (As := [.ref (q 18), .int s45.1, .int (((gR s17.2.2 11) (s17.2.1.toNatClampNeg)) + ((gR s45.2.2 11) (s45.2.1.toNatClampNeg)))]) (rest := []) ⟨hx, hb, hml, hown, hts⟩ (zX5_set l D cy sa (WX q cy s45.2.2 ++ rest) H.size 18 (q 18) 2731 (gR s45.2.2 12) s45.1 (((gR s17.2.2 11) (s17.2.1.toNatClampNeg)) + ((gR s45.2.2 11) (s45.2.1.toNatClampNeg))) r86 rfl h86r) ⟨va_cnB 3 hts (gB_K wB115) rfl rfl rfl (hE.2.1.1 _ (List.mem_of_getElem? (i := 9) rfl)) (hts _ wB2) (by decide +kernel) ⟨Nat.le_of_ble_eq_true rfl, Nat.le_of_ble_eq_true rfl⟩, hts _ wB114, trivial⟩ ⟨kP.blind, k_pre hP hD hS hE hA⟩ rfl rfl hl.1 rfl (lv_room (Nat.le_of_ble_eq_true rfl)) dX2_addUpPair_86 ⟨Nat.zero_le _, Nat.zero_le _⟩) hD hS hA (fun H locs hP hD hS => ?_)
                  have hP : va_P D vwCl (WX q cy (sR s45.2.2 12 r86) ++ rest) H := hP
                  have hD : va_D A (WX q cy (sR s45.2.2 12 r86) ++ rest) := hD
                  refine lv_iinc (v := (s45.1 + 1)) (lv' := [(4, .int (s45.1 + 1)), (12, .int ((gR s45.2.2 11) (s45.2.1.toNatClampNeg))), (0, .ref (q 15)), (2, .int a2), (3, .int a3), (5, .ref (q 16)), (6, .int 21), (7, .int s17.2.1), (8, .int ((gR s17.2.2 11) (s17.2.1.toNatClampNeg))), (9, .ref (q 16)), (10, .int 21), (11, .int s45.2.1)]) hx hb dX2_addUpPair_89 hl (k := 4) rfl (by rfl) (by decide) rfl (fun ls hl => ?_)
                  refine lv_iinc (v := (s45.2.1 + 1)) (lv' := [(11, .int (s45.2.1 + 1)), (4, .int (s45.1 + 1)), (12, .int ((gR s45.2.2 11) (s45.2.1.toNatClampNeg))), (0, .ref (q 15)), (2, .int a2), (3, .int a3), (5, .ref (q 16)), (6, .int 21), (7, .int s17.2.1), (8, .int ((gR s17.2.2 11) (s17.2.1.toNatClampNeg))), (9, .ref (q 16)), (10, .int 21)]) hx hb dX2_addUpPair_92 hl (k := 11) rfl (by rfl) (by decide) rfl (fun ls hl => ?_)
                  refine lv_goto (tgt := 45) hx hb dX2_addUpPair_95 (by decide) ?_
                  obtain rfl := o_ret hf
                  exact ih45 _ _ (lpK_r h45z) _ _ _ hP hD hS (lv_sub hl [3, 4, 5, 1, 6, 7, 8, 9, 10, 11, 0] rfl) K45_0
                · have hf := o_in c76 hf
                  refine lv_iconst (v := 0) hx hb dX2_addUpPair_79 (by decide) ?_
                  refine lv_goto (tgt := 85) hx hb dX2_addUpPair_80 (by decide) ?_
                  refine lv_iadd hx hb dX2_addUpPair_85 ?_
                  obtain ⟨r86, h86r, hf⟩ := o_bs hf
                  refine k_gov (va_runSN (As := [.ref (q 18), .int s45.1, .int (((gR s17.2.2 11) (s17.2.1.toNatClampNeg)) + 0)]) (rest := []) ⟨hx, hb, hml, hown, hts⟩ (zX5_set l D cy sa (WX q cy s45.2.2 ++ rest) H.size 18 (q 18) 2731 (gR s45.2.2 12) s45.1 (((gR s17.2.2 11) (s17.2.1.toNatClampNeg)) + 0) r86 rfl h86r) ⟨va_cnB 3 hts (gB_K wB115) rfl rfl rfl (hE.2.1.1 _ (List.mem_of_getElem? (i := 9) rfl)) (hts _ wB2) (by decide +kernel) ⟨Nat.le_of_ble_eq_true rfl, Nat.le_of_ble_eq_true rfl⟩, hts _ wB114, trivial⟩ ⟨kP.blind, k_pre hP hD hS hE hA⟩ rfl rfl hl.1 rfl (lv_room (Nat.le_of_ble_eq_true rfl)) dX2_addUpPair_86 ⟨Nat.zero_le _, Nat.zero_le _⟩) hD hS hA (fun H locs hP hD hS => ?_)
                  have hP : va_P D vwCl (WX q cy (sR s45.2.2 12 r86) ++ rest) H := hP
                  have hD : va_D A (WX q cy (sR s45.2.2 12 r86) ++ rest) := hD
                  refine lv_iinc (v := (s45.1 + 1)) (lv' := [(4, .int (s45.1 + 1)), (12, .int ((gR s45.2.2 11) (s45.2.1.toNatClampNeg))), (0, .ref (q 15)), (2, .int a2), (3, .int a3), (5, .ref (q 16)), (6, .int 21), (7, .int s17.2.1), (8, .int ((gR s17.2.2 11) (s17.2.1.toNatClampNeg))), (9, .ref (q 16)), (10, .int 21), (11, .int s45.2.1)]) hx hb dX2_addUpPair_89 hl (k := 4) rfl (by rfl) (by decide) rfl (fun ls hl => ?_)
                  refine lv_iinc (v := (s45.2.1 + 1)) (lv' := [(11, .int (s45.2.1 + 1)), (4, .int (s45.1 + 1)), (12, .int ((gR s45.2.2 11) (s45.2.1.toNatClampNeg))), (0, .ref (q 15)), (2, .int a2), (3, .int a3), (5, .ref (q 16)), (6, .int 21), (7, .int s17.2.1), (8, .int ((gR s17.2.2 11) (s17.2.1.toNatClampNeg))), (9, .ref (q 16)), (10, .int 21)]) hx hb dX2_addUpPair_92 hl (k := 11) rfl (by rfl) (by decide) rfl (fun ls hl => ?_)
                  refine lv_goto (tgt := 45) hx hb dX2_addUpPair_95 (by decide) ?_
                  obtain rfl := o_ret hf
                  exact ih45 _ _ (lpK_r h45z) _ _ _ hP hD hS (lv_sub hl [3, 4, 5, 1, 6, 7, 8, 9, 10, 11, 0] rfl) K45_0
              · have hf := o_in c66 hf
                refine lv_iconst (v := 0) hx hb dX2_addUpPair_69 (by decide) ?_
                refine lv_goto (tgt := 75) hx hb dX2_addUpPair_70 (by decide) ?_
                refine lv_iload_n hx hb dX2_addUpPair_75 rfl (lv_at hl 3 rfl) ?_
                refine lv_if_eq (tgt := 83) hx hb dX2_addUpPair_76 (by decide) (fun c76 => ?_) (fun c76 => ?_)
                · have hf := o_ip c76 hf
                  refine lv_iload hx hb dX2_addUpPair_83 (lv_at hl 0 rfl) ?_
                  refine lv_iadd hx hb dX2_addUpPair_85 ?_
                  obtain ⟨r86, h86r, hf⟩ := o_bs hf
                  refine k_gov (va_runSN (As := [.ref (q 18), .int s45.1, .int (0 + ((gR s45.2.2 11) (s45.2.1.toNatClampNeg)))]) (rest := []) ⟨hx, hb, hml, hown, hts⟩ (zX5_set l D cy sa (WX q cy s45.2.2 ++ rest) H.size 18 (q 18) 2731 (gR s45.2.2 12) s45.1 (0 + ((gR s45.2.2 11) (s45.2.1.toNatClampNeg))) r86 rfl h86r) ⟨va_cnB 3 hts (gB_K wB115) rfl rfl rfl (hE.2.1.1 _ (List.mem_of_getElem? (i := 9) rfl)) (hts _ wB2) (by decide +kernel) ⟨Nat.le_of_ble_eq_true rfl, Nat.le_of_ble_eq_true rfl⟩, hts _ wB114, trivial⟩ ⟨kP.blind, k_pre hP hD hS hE hA⟩ rfl rfl hl.1 rfl (lv_room (Nat.le_of_ble_eq_true rfl)) dX2_addUpPair_86 ⟨Nat.zero_le _, Nat.zero_le _⟩) hD hS hA (fun H locs hP hD hS => ?_)
                  have hP : va_P D vwCl (WX q cy (sR s45.2.2 12 r86) ++ rest) H := hP
                  have hD : va_D A (WX q cy (sR s45.2.2 12 r86) ++ rest) := hD
                  refine lv_iinc (v := (s45.1 + 1)) (lv' := [(4, .int (s45.1 + 1)), (12, .int ((gR s45.2.2 11) (s45.2.1.toNatClampNeg))), (0, .ref (q 15)), (2, .int a2), (3, .int a3), (5, .ref (q 16)), (6, .int 21), (7, .int s17.2.1), (8, .int ((gR s17.2.2 11) (s17.2.1.toNatClampNeg))), (9, .ref (q 16)), (10, .int 21), (11, .int s45.2.1)]) hx hb dX2_addUpPair_89 hl (k := 4) rfl (by rfl) (by decide) rfl (fun ls hl => ?_)
                  refine lv_iinc (v := (s45.2.1 + 1)) (lv' := [(11, .int (s45.2.1 + 1)), (4, .int (s45.1 + 1)), (12, .int ((gR s45.2.2 11) (s45.2.1.toNatClampNeg))), (0, .ref (q 15)), (2, .int a2), (3, .int a3), (5, .ref (q 16)), (6, .int 21), (7, .int s17.2.1), (8, .int ((gR s17.2.2 11) (s17.2.1.toNatClampNeg))), (9, .ref (q 16)), (10, .int 21)]) hx hb dX2_addUpPair_92 hl (k := 11) rfl (by rfl) (by decide) rfl (fun ls hl => ?_)
                  refine lv_goto (tgt := 45) hx hb dX2_addUpPair_95 (by decide) ?_
                  obtain rfl := o_ret hf
                  exact ih45 _ _ (lpK_r h45z) _ _ _ hP hD hS (lv_sub hl [3, 4, 5, 1, 6, 7, 8, 9, 10, 11, 0] rfl) K45_0
                · have hf := o_in c76 hf
                  refine lv_iconst (v := 0) hx hb dX2_addUpPair_79 (by decide) ?_
                  refine lv_goto (tgt := 85) hx hb dX2_addUpPair_80 (by decide) ?_
                  refine lv_iadd hx hb dX2_addUpPair_85 ?_
                  obtain ⟨r86, h86r, hf⟩ := o_bs hf
                  refine k_gov (va_runSN (As := [.ref (q 18), .int s45.1, .int (0 + 0)]) (rest := []) ⟨hx, hb, hml, hown, hts⟩ (zX5_set l D cy sa (WX q cy s45.2.2 ++ rest) H.size 18 (q 18) 2731 (gR s45.2.2 12) s45.1 (0 + 0) r86 rfl h86r) ⟨va_cnB 3 hts (gB_K wB115) rfl rfl rfl (hE.2.1.1 _ (List.mem_of_getElem? (i := 9) rfl)) (hts _ wB2) (by decide +kernel) ⟨Nat.le_of_ble_eq_true rfl, Nat.le_of_ble_eq_true rfl⟩, hts _ wB114, trivial⟩ ⟨kP.blind, k_pre hP hD hS hE hA⟩ rfl rfl hl.1 rfl (lv_room (Nat.le_of_ble_eq_true rfl)) dX2_addUpPair_86 ⟨Nat.zero_le _, Nat.zero_le _⟩) hD hS hA (fun H locs hP hD hS => ?_)
                  have hP : va_P D vwCl (WX q cy (sR s45.2.2 12 r86) ++ rest) H := hP
                  have hD : va_D A (WX q cy (sR s45.2.2 12 r86) ++ rest) := hD
                  refine lv_iinc (v := (s45.1 + 1)) (lv' := [(4, .int (s45.1 + 1)), (12, .int ((gR s45.2.2 11) (s45.2.1.toNatClampNeg))), (0, .ref (q 15)), (2, .int a2), (3, .int a3), (5, .ref (q 16)), (6, .int 21), (7, .int s17.2.1), (8, .int ((gR s17.2.2 11) (s17.2.1.toNatClampNeg))), (9, .ref (q 16)), (10, .int 21), (11, .int s45.2.1)]) hx hb dX2_addUpPair_89 hl (k := 4) rfl (by rfl) (by decide) rfl (fun ls hl => ?_)
                  refine lv_iinc (v := (s45.2.1 + 1)) (lv' := [(11, .int (s45.2.1 + 1)), (4, .int (s45.1 + 1)), (12, .int ((gR s45.2.2 11) (s45.2.1.toNatClampNeg))), (0, .ref (q 15)), (2, .int a2), (3, .int a3), (5, .ref (q 16)), (6, .int 21), (7, .int s17.2.1), (8, .int ((gR s17.2.2 11) (s17.2.1.toNatClampNeg))), (9, .ref (q 16)), (10, .int 21)]) hx hb dX2_addUpPair_92 hl (k := 11) rfl (by rfl) (by decide) rfl (fun ls hl => ?_)
                  refine lv_goto (tgt := 45) hx hb dX2_addUpPair_95 (by decide) ?_
                  obtain rfl := o_ret hf
                  exact ih45 _ _ (lpK_r h45z) _ _ _ hP hD hS (lv_sub hl [3, 4, 5, 1, 6, 7, 8, 9, 10, 11, 0] rfl) K45_0
        obtain ⟨e45, h45q, hf⟩ := o_bs hf
        obtain ⟨n45v, h45q⟩ := lpF_ex h45q
        refine L45 n45v _ e45 h45q _ _ _ hP hD hS (lv_sub hl [4, 5, 6, 7, 8, 9, 10, 3, 2, 1, 0] rfl) ?_
        intro H locs ls hP hD hS hl
        refine lv_iinc (v := (s17.2.1 + 1)) (lv' := [(7, .int (s17.2.1 + 1)), (0, .ref (q 15)), (2, .int a2), (3, .int a3), (4, .int e45.1), (5, .ref (q 16)), (6, .int 21)]) hx hb dX2_addUpPair_98 hl (k := 6) rfl (by rfl) (by decide) rfl (fun ls hl => ?_)
        refine lv_goto (tgt := 17) hx hb dX2_addUpPair_101 (by decide) ?_
        obtain rfl := o_ret hf
        exact ih17 _ _ (lpK_r h17z) _ _ _ hP hD hS (lv_sub hl [1, 2, 3, 4, 5, 6, 0] rfl) K17_0
  obtain ⟨e17, h17q, hf⟩ := o_bs hf
  obtain ⟨n17v, h17q⟩ := lpF_ex h17q
  refine L17 n17v _ e17 h17q _ _ _ hP hD hS (lv_sub hl [4, 6, 7, 3, 2, 1, 0] rfl) ?_
  intro H locs ls hP hD hS hl
  obtain rfl := o_ret hf
  exact k_vret hx hb hr hP hD hS (Nat.zero_le _) (Nat.zero_le _) hlocks dX2_addUpPair_104
noncomputable def mX2_addUp_s18 (c1 : Int32) (c2 : Int32) (s18 : Int32 × KS) : Option ((KS) ⊕ (Int32 × KS)) :=
  if 21 ≤ s18.1 then
  (some (.inl s18.2))
  else
  (if c2 = c1 then
  ((mX5_set 2731 (gR s18.2 12) ((1 + (c2 * 21)) + s18.1) 0).bind fun r54 =>
  some (.inr ((s18.1 + 1), (sR s18.2 12 r54))))
  else
  (gd (inb s18.1 21) ((mX5_set 2731 (gR s18.2 12) ((1 + (c2 * 21)) + s18.1) ((gR s18.2 11) (s18.1.toNatClampNeg))).bind fun r54 =>
  some (.inr ((s18.1 + 1), (sR s18.2 12 r54))))))
noncomputable def mX2_addUp_s11 (c1 : Int32) (s11 : Int32 × KS) : Option ((KS) ⊕ (Int32 × KS)) :=
  if 4 ≤ s11.1 then
  (some (.inl s11.2))
  else
  ((lpF (mX2_addUp_s18 c1 s11.1) (0, s11.2)).bind fun e18 =>
  some (.inr ((s11.1 + 1), e18)))
noncomputable def mX2_addUp_s83 (c1 : Int32) (c3 : Int32) (s83 : Int32 × Int32 × KS) : Option (((Int32 × KS)) ⊕ (Int32 × Int32 × KS)) :=
  if 4 ≤ s83.2.1 then
  (some (.inl (s83.1, s83.2.2)))
  else
  (if c3 = c1 then
  (if s83.2.1 = c1 then
  ((mX2_addUpPair s83.2.2 (85 + (s83.1 * 441)) 1 1).bind fun r119 =>
  some (.inr ((s83.1 + 1), (s83.2.1 + 1), r119)))
  else
  ((mX2_addUpPair s83.2.2 (85 + (s83.1 * 441)) 1 0).bind fun r119 =>
  some (.inr ((s83.1 + 1), (s83.2.1 + 1), r119))))
  else
  (if s83.2.1 = c1 then
  ((mX2_addUpPair s83.2.2 (85 + (s83.1 * 441)) 0 1).bind fun r119 =>
  some (.inr ((s83.1 + 1), (s83.2.1 + 1), r119)))
  else
  ((mX2_addUpPair s83.2.2 (85 + (s83.1 * 441)) 0 0).bind fun r119 =>
  some (.inr ((s83.1 + 1), (s83.2.1 + 1), r119)))))
noncomputable def mX2_addUp_s73 (c1 : Int32) (s73 : Int32 × Int32 × KS) : Option ((KS) ⊕ (Int32 × Int32 × KS)) :=
  if 4 ≤ s73.2.1 then
  (some (.inl s73.2.2))
  else
  ((lpF (mX2_addUp_s83 c1 s73.2.1) (s73.1, (s73.2.1 + 1), s73.2.2)).bind fun e83 =>
  some (.inr (e83.1, (s73.2.1 + 1), e83.2)))
noncomputable def mX2_addUp (u : KS) (a1 : Int32) : Option (KS) :=
  (mX5_set 2731 (gR u 12) 0 0).bind fun r6 =>
  (lpF (mX2_addUp_s11 a1) (0, (sR u 12 r6))).bind fun e11 =>
  (lpF (mX2_addUp_s73 a1) (0, 0, e11)).bind fun e73 =>
  some e73
abbrev rmX2_addUp : Room := { frames := 2, cells := 0, slots := 0, locals := 54 }
set_option maxRecDepth 100000 in
set_option maxHeartbeats 4000000 in
theorem zX2_addUp (l : Launch) (D : va_G) (cy : Nat → ClassId) (sa : Nat → Nat) (q : Nat → Nat) (rest : va_W) (sz : Nat) (u : KS) (a1 : Int32) (res : KS) (hf : mX2_addUp u a1 = some res) : kMv l yX2_addUp (wsK yX2_addUp cX2_addUp 5 none) rmX2_addUp D cy sa (WX q cy u ++ rest) sz [.ref (q 15), .int a1] (WX q cy res ++ rest) 0 0 := by
  refine kM_of (Qc := fun A => kQv D A (WX q cy res ++ rest)) (cc := cX2_addUp) (maxL := 5) (ret := none) (by decide) (Nat.le_of_ble_eq_true rfl) ?_
  intro p e s m below meth c A hx hb hml hr hts hown hlocks hin hA hP hD hS hE hsz ls hl
  have hown : s.vm.findClass RX2 = some m.cls := hown
  obtain ⟨H, hH0⟩ : ∃ H, H = s.heap := ⟨_, rfl⟩
  obtain ⟨locs, hlocs0⟩ : ∃ locs : List Loc, locs = [] := ⟨_, rfl⟩
  have hP : va_P D vwCl (WX q cy u ++ rest) H := by rw [hH0]; exact hP
  have hS : va_S A s.heap H locs := by rw [hH0, hlocs0]; exact hS
  have hl : lv_has ls 5 [(0, .ref (q 15)), (1, .int a1)] := hl
  suffices hgoal : W p l e rmX2_addUp s m ([.ref (q 15), .int a1] : List Value).toArray below meth c H locs 0 0 (MQ below (kQv D A (WX q cy res ++ rest)) ([.ref (q 15), .int a1] : List Value).toArray s 0 0 A) (F0 m 0 ls []) by rw [hH0, hlocs0] at hgoal; exact hgoal
  clear hH0 hlocs0
  unfold mX2_addUp at hf
  refine lv_aload_n hx hb dX2_addUp_0 rfl (lv_at hl 0 rfl) ?_
  refine va_get (ci := 2) (v := .ref (q 18)) (C := RX2) (T := TX2) (N := 4) hx hb hts inlX2 hown hE.1 hP 15 rfl rfl 3 (by decide) (hts _ wB61) (fun _ h9 => h9) rfl dX2_addUp_1 ?_
  refine lv_iconst (v := 0) hx hb dX2_addUp_4 (by decide) ?_
  refine lv_iconst (v := 0) hx hb dX2_addUp_5 (by decide) ?_
  obtain ⟨r6, h6r, hf⟩ := o_bs hf
  refine k_gov (va_runSN (As := [.ref (q 18), .int 0, .int 0]) (rest := []) ⟨hx, hb, hml, hown, hts⟩ (zX5_set l D cy sa (WX q cy u ++ rest) H.size 18 (q 18) 2731 (gR u 12) 0 0 r6 rfl h6r) ⟨va_cnB 3 hts (gB_K wB115) rfl rfl rfl (hE.2.1.1 _ (List.mem_of_getElem? (i := 9) rfl)) (hts _ wB2) (by decide +kernel) ⟨Nat.le_of_ble_eq_true rfl, Nat.le_of_ble_eq_true rfl⟩, hts _ wB114, trivial⟩ ⟨kP.blind, k_pre hP hD hS hE hA⟩ rfl rfl hl.1 rfl (lv_room (Nat.le_of_ble_eq_true rfl)) dX2_addUp_6 ⟨Nat.zero_le _, Nat.zero_le _⟩) hD hS hA (fun H locs hP hD hS => ?_)
  have hP : va_P D vwCl (WX q cy (sR u 12 r6) ++ rest) H := hP
  have hD : va_D A (WX q cy (sR u 12 r6) ++ rest) := hD
  refine lv_iconst (v := 0) hx hb dX2_addUp_9 (by decide) ?_
  refine lv_istore_n (lv' := [(2, .int 0), (0, .ref (q 15)), (1, .int a1)]) hx hb dX2_addUp_10 rfl hl (by decide) rfl (fun ls hl => ?_)
  have L11 : ∀ (n11v : Nat) (s11 : Int32 × KS) (e11 : KS), lpO (mX2_addUp_s11 a1) n11v s11 = some e11 → ∀ (H : Heap) (locs : List Loc) (ls : Array Slot), va_P D vwCl (WX q cy s11.2 ++ rest) H → va_D A (WX q cy s11.2 ++ rest) → va_S A s.heap H locs → lv_has ls 5 [(0, .ref (q 15)), (1, .int a1), (2, .int s11.1)] → (∀ (H : Heap) (locs : List Loc) (ls : Array Slot), va_P D vwCl (WX q cy e11 ++ rest) H → va_D A (WX q cy e11 ++ rest) → va_S A s.heap H locs → lv_has ls 5 [(0, .ref (q 15)), (1, .int a1)] → W p l e rmX2_addUp s m ([.ref (q 15), .int a1] : List Value).toArray below meth c H locs 0 0 (MQ below (kQv D A (WX q cy res ++ rest)) ([.ref (q 15), .int a1] : List Value).toArray s 0 0 A) (F0 m 69 ls [])) → W p l e rmX2_addUp s m ([.ref (q 15), .int a1] : List Value).toArray below meth c H locs 0 0 (MQ below (kQv D A (WX q cy res ++ rest)) ([.ref (q 15), .int a1] : List Value).toArray s 0 0 A) (F0 m 11 ls []) := by
    intro n11v
    induction n11v with
    | zero => intro s11 e11 h; exact (lpO_z h).elim
    | succ n11v ih11 =>
      intro s11 e11 h11z H locs ls hP hD hS hl K11_0
      obtain ⟨x11, hf, h11z⟩ := lpO_s h11z
      unfold mX2_addUp_s11 at hf
      refine lv_iload_n hx hb dX2_addUp_11 rfl (lv_at hl 2 rfl) ?_
      refine lv_iconst (v := 4) hx hb dX2_addUp_12 (by decide) ?_
      refine lv_icmp_ge (tgt := 69) hx hb dX2_addUp_13 (by decide) (fun c13 => ?_) (fun c13 => ?_)
      · have hf := o_ip c13 hf
        obtain rfl := o_ret hf
        obtain rfl := lpK_l h11z
        exact K11_0 _ _ _ hP hD hS (lv_sub hl [0, 1] rfl)
      · have hf := o_in c13 hf
        refine lv_iconst (v := 0) hx hb dX2_addUp_16 (by decide) ?_
        refine lv_istore_n (lv' := [(3, .int 0), (0, .ref (q 15)), (1, .int a1), (2, .int s11.1)]) hx hb dX2_addUp_17 rfl hl (by decide) rfl (fun ls hl => ?_)
        have L18 : ∀ (n18v : Nat) (s18 : Int32 × KS) (e18 : KS), lpO (mX2_addUp_s18 a1 s11.1) n18v s18 = some e18 → ∀ (H : Heap) (locs : List Loc) (ls : Array Slot), va_P D vwCl (WX q cy s18.2 ++ rest) H → va_D A (WX q cy s18.2 ++ rest) → va_S A s.heap H locs → lv_has ls 5 [(0, .ref (q 15)), (1, .int a1), (2, .int s11.1), (3, .int s18.1)] → (∀ (H : Heap) (locs : List Loc) (ls : Array Slot), va_P D vwCl (WX q cy e18 ++ rest) H → va_D A (WX q cy e18 ++ rest) → va_S A s.heap H locs → lv_has ls 5 [(0, .ref (q 15)), (1, .int a1), (2, .int s11.1)] → W p l e rmX2_addUp s m ([.ref (q 15), .int a1] : List Value).toArray below meth c H locs 0 0 (MQ below (kQv D A (WX q cy res ++ rest)) ([.ref (q 15), .int a1] : List Value).toArray s 0 0 A) (F0 m 63 ls [])) → W p l e rmX2_addUp s m ([.ref (q 15), .int a1] : List Value).toArray below meth c H locs 0 0 (MQ below (kQv D A (WX q cy res ++ rest)) ([.ref (q 15), .int a1] : List Value).toArray s 0 0 A) (F0 m 18 ls []) := by
          intro n18v
          induction n18v with
          | zero => intro s18 e18 h; exact (lpO_z h).elim
          | succ n18v ih18 =>
            intro s18 e18 h18z H locs ls hP hD hS hl K18_0
            obtain ⟨x18, hf, h18z⟩ := lpO_s h18z
            unfold mX2_addUp_s18 at hf
            refine lv_iload_n hx hb dX2_addUp_18 rfl (lv_at hl 3 rfl) ?_
            refine lv_aload_n hx hb dX2_addUp_19 rfl (lv_at hl 0 rfl) ?_
            refine va_get (ci := 2) (v := .ref (q 16)) (C := RX2) (T := TX2) (N := 4) hx hb hts inlX2 hown hE.1 hP 15 rfl rfl 1 (by decide) (hts _ wB58) (fun _ h9 => h9) rfl dX2_addUp_20 ?_
            refine va_alen (v := 21) hx hb hE.1 hP 16 0 rfl rfl rfl dX2_addUp_23 ?_
            refine lv_icmp_ge (tgt := 63) hx hb dX2_addUp_24 (by decide) (fun c24 => ?_) (fun c24 => ?_)
            · have hf := o_ip c24 hf
              obtain rfl := o_ret hf
              obtain rfl := lpK_l h18z
              exact K18_0 _ _ _ hP hD hS (lv_sub hl [0, 1, 2] rfl)
            · have hf := o_in c24 hf
              refine lv_aload_n hx hb dX2_addUp_27 rfl (lv_at hl 0 rfl) ?_
              refine va_get (ci := 2) (v := .ref (q 18)) (C := RX2) (T := TX2) (N := 4) hx hb hts inlX2 hown hE.1 hP 15 rfl rfl 3 (by decide) (hts _ wB61) (fun _ h9 => h9) rfl dX2_addUp_28 ?_
              refine lv_iconst (v := 1) hx hb dX2_addUp_31 (by decide) ?_
              refine lv_iload_n hx hb dX2_addUp_32 rfl (lv_at hl 2 rfl) ?_
              refine lv_bipush (v := 21) hx hb dX2_addUp_33 (by decide) ?_
              refine lv_imul hx hb dX2_addUp_35 ?_
              refine lv_iadd hx hb dX2_addUp_36 ?_
              refine lv_iload_n hx hb dX2_addUp_37 rfl (lv_at hl 3 rfl) ?_
              refine lv_iadd hx hb dX2_addUp_38 ?_
              refine lv_iload_n hx hb dX2_addUp_39 rfl (lv_at hl 2 rfl) ?_
              refine lv_iload_n hx hb dX2_addUp_40 rfl (lv_at hl 1 rfl) ?_
              refine lv_icmp_ne (tgt := 48) hx hb dX2_addUp_41 (by decide) (fun c41 => ?_) (fun c41 => ?_)
              · have hf := o_in c41 hf
                refine lv_aload_n hx hb dX2_addUp_48 rfl (lv_at hl 0 rfl) ?_
                refine va_get (ci := 2) (v := .ref (q 16)) (C := RX2) (T := TX2) (N := 4) hx hb hts inlX2 hown hE.1 hP 15 rfl rfl 1 (by decide) (hts _ wB58) (fun _ h9 => h9) rfl dX2_addUp_49 ?_
                refine lv_iload_n hx hb dX2_addUp_52 rfl (lv_at hl 3 rfl) ?_
                obtain ⟨hg53, hf⟩ := gd_s hf
                refine va_iald (f := (gR s18.2 11)) hx hb hE.1 hP 16 0 rfl rfl hg53 dX2_addUp_53 ?_
                obtain ⟨r54, h54r, hf⟩ := o_bs hf
                refine k_gov (va_runSN (As := [.ref (q 18), .int ((1 + (s11.1 * 21)) + s18.1), .int ((gR s18.2 11) (s18.1.toNatClampNeg))]) (rest := []) ⟨hx, hb, hml, hown, hts⟩ (zX5_set l D cy sa (WX q cy s18.2 ++ rest) H.size 18 (q 18) 2731 (gR s18.2 12) ((1 + (s11.1 * 21)) + s18.1) ((gR s18.2 11) (s18.1.toNatClampNeg)) r54 rfl h54r) ⟨va_cnB 3 hts (gB_K wB115) rfl rfl rfl (hE.2.1.1 _ (List.mem_of_getElem? (i := 9) rfl)) (hts _ wB2) (by decide +kernel) ⟨Nat.le_of_ble_eq_true rfl, Nat.le_of_ble_eq_true rfl⟩, hts _ wB114, trivial⟩ ⟨kP.blind, k_pre hP hD hS hE hA⟩ rfl rfl hl.1 rfl (lv_room (Nat.le_of_ble_eq_true rfl)) dX2_addUp_54 ⟨Nat.zero_le _, Nat.zero_le _⟩) hD hS hA (fun H locs hP hD hS => ?_)
                have hP : va_P D vwCl (WX q cy (sR s18.2 12 r54) ++ rest) H := hP
                have hD : va_D A (WX q cy (sR s18.2 12 r54) ++ rest) := hD
                refine lv_iinc (v := (s18.1 + 1)) (lv' := [(3, .int (s18.1 + 1)), (0, .ref (q 15)), (1, .int a1), (2, .int s11.1)]) hx hb dX2_addUp_57 hl (k := 3) rfl (by rfl) (by decide) rfl (fun ls hl => ?_)
                refine lv_goto (tgt := 18) hx hb dX2_addUp_60 (by decide) ?_
                obtain rfl := o_ret hf
                exact ih18 _ _ (lpK_r h18z) _ _ _ hP hD hS (lv_sub hl [1, 2, 3, 0] rfl) K18_0
              · have hf := o_ip c41 hf
                refine lv_iconst (v := 0) hx hb dX2_addUp_44 (by decide) ?_
                refine lv_goto (tgt := 54) hx hb dX2_addUp_45 (by decide) ?_
                obtain ⟨r54, h54r, hf⟩ := o_bs hf
                refine k_gov (va_runSN (As := [.ref (q 18), .int ((1 + (s11.1 * 21)) + s18.1), .int 0]) (rest := []) ⟨hx, hb, hml, hown, hts⟩ (zX5_set l D cy sa (WX q cy s18.2 ++ rest) H.size 18 (q 18) 2731 (gR s18.2 12) ((1 + (s11.1 * 21)) + s18.1) 0 r54 rfl h54r) ⟨va_cnB 3 hts (gB_K wB115) rfl rfl rfl (hE.2.1.1 _ (List.mem_of_getElem? (i := 9) rfl)) (hts _ wB2) (by decide +kernel) ⟨Nat.le_of_ble_eq_true rfl, Nat.le_of_ble_eq_true rfl⟩, hts _ wB114, trivial⟩ ⟨kP.blind, k_pre hP hD hS hE hA⟩ rfl rfl hl.1 rfl (lv_room (Nat.le_of_ble_eq_true rfl)) dX2_addUp_54 ⟨Nat.zero_le _, Nat.zero_le _⟩) hD hS hA (fun H locs hP hD hS => ?_)
                have hP : va_P D vwCl (WX q cy (sR s18.2 12 r54) ++ rest) H := hP
                have hD : va_D A (WX q cy (sR s18.2 12 r54) ++ rest) := hD
                refine lv_iinc (v := (s18.1 + 1)) (lv' := [(3, .int (s18.1 + 1)), (0, .ref (q 15)), (1, .int a1), (2, .int s11.1)]) hx hb dX2_addUp_57 hl (k := 3) rfl (by rfl) (by decide) rfl (fun ls hl => ?_)
                refine lv_goto (tgt := 18) hx hb dX2_addUp_60 (by decide) ?_
                obtain rfl := o_ret hf
                exact ih18 _ _ (lpK_r h18z) _ _ _ hP hD hS (lv_sub hl [1, 2, 3, 0] rfl) K18_0
        obtain ⟨e18, h18q, hf⟩ := o_bs hf
        obtain ⟨n18v, h18q⟩ := lpF_ex h18q
        refine L18 n18v _ e18 h18q _ _ _ hP hD hS (lv_sub hl [1, 2, 3, 0] rfl) ?_
        intro H locs ls hP hD hS hl
        refine lv_iinc (v := (s11.1 + 1)) (lv' := [(2, .int (s11.1 + 1)), (0, .ref (q 15)), (1, .int a1)]) hx hb dX2_addUp_63 hl (k := 2) rfl (by rfl) (by decide) rfl (fun ls hl => ?_)
        refine lv_goto (tgt := 11) hx hb dX2_addUp_66 (by decide) ?_
        obtain rfl := o_ret hf
        exact ih11 _ _ (lpK_r h11z) _ _ _ hP hD hS (lv_sub hl [1, 2, 0] rfl) K11_0
  obtain ⟨e11, h11q, hf⟩ := o_bs hf
  obtain ⟨n11v, h11q⟩ := lpF_ex h11q
  refine L11 n11v _ e11 h11q _ _ _ hP hD hS (lv_sub hl [1, 2, 0] rfl) ?_
  intro H locs ls hP hD hS hl
  refine lv_iconst (v := 0) hx hb dX2_addUp_69 (by decide) ?_
  refine lv_istore_n (lv' := [(2, .int 0), (0, .ref (q 15)), (1, .int a1)]) hx hb dX2_addUp_70 rfl hl (by decide) rfl (fun ls hl => ?_)
  refine lv_iconst (v := 0) hx hb dX2_addUp_71 (by decide) ?_
  refine lv_istore_n (lv' := [(3, .int 0), (2, .int 0), (0, .ref (q 15)), (1, .int a1)]) hx hb dX2_addUp_72 rfl hl (by decide) rfl (fun ls hl => ?_)
  have L73 : ∀ (n73v : Nat) (s73 : Int32 × Int32 × KS) (e73 : KS), lpO (mX2_addUp_s73 a1) n73v s73 = some e73 → ∀ (H : Heap) (locs : List Loc) (ls : Array Slot), va_P D vwCl (WX q cy s73.2.2 ++ rest) H → va_D A (WX q cy s73.2.2 ++ rest) → va_S A s.heap H locs → lv_has ls 5 [(0, .ref (q 15)), (1, .int a1), (2, .int s73.1), (3, .int s73.2.1)] → (∀ (H : Heap) (locs : List Loc) (ls : Array Slot), va_P D vwCl (WX q cy e73 ++ rest) H → va_D A (WX q cy e73 ++ rest) → va_S A s.heap H locs → lv_has ls 5 [] → W p l e rmX2_addUp s m ([.ref (q 15), .int a1] : List Value).toArray below meth c H locs 0 0 (MQ below (kQv D A (WX q cy res ++ rest)) ([.ref (q 15), .int a1] : List Value).toArray s 0 0 A) (F0 m 137 ls [])) → W p l e rmX2_addUp s m ([.ref (q 15), .int a1] : List Value).toArray below meth c H locs 0 0 (MQ below (kQv D A (WX q cy res ++ rest)) ([.ref (q 15), .int a1] : List Value).toArray s 0 0 A) (F0 m 73 ls []) := by
    intro n73v
    induction n73v with
    | zero => intro s73 e73 h; exact (lpO_z h).elim
    | succ n73v ih73 =>
      intro s73 e73 h73z H locs ls hP hD hS hl K73_0
      obtain ⟨x73, hf, h73z⟩ := lpO_s h73z
      unfold mX2_addUp_s73 at hf
      refine lv_iload_n hx hb dX2_addUp_73 rfl (lv_at hl 3 rfl) ?_
      refine lv_iconst (v := 4) hx hb dX2_addUp_74 (by decide) ?_
      refine lv_icmp_ge (tgt := 137) hx hb dX2_addUp_75 (by decide) (fun c75 => ?_) (fun c75 => ?_)
      · have hf := o_ip c75 hf
        obtain rfl := o_ret hf
        obtain rfl := lpK_l h73z
        exact K73_0 _ _ _ hP hD hS (lv_sub hl [] rfl)
      · have hf := o_in c75 hf
        refine lv_iload_n hx hb dX2_addUp_78 rfl (lv_at hl 3 rfl) ?_
        refine lv_iconst (v := 1) hx hb dX2_addUp_79 (by decide) ?_
        refine lv_iadd hx hb dX2_addUp_80 ?_
        refine lv_istore (lv' := [(4, .int (s73.2.1 + 1)), (0, .ref (q 15)), (1, .int a1), (2, .int s73.1), (3, .int s73.2.1)]) hx hb dX2_addUp_81 hl (by decide) rfl (fun ls hl => ?_)
        have L83 : ∀ (n83v : Nat) (s83 : Int32 × Int32 × KS) (e83 : (Int32 × KS)), lpO (mX2_addUp_s83 a1 s73.2.1) n83v s83 = some e83 → ∀ (H : Heap) (locs : List Loc) (ls : Array Slot), va_P D vwCl (WX q cy s83.2.2 ++ rest) H → va_D A (WX q cy s83.2.2 ++ rest) → va_S A s.heap H locs → lv_has ls 5 [(0, .ref (q 15)), (1, .int a1), (2, .int s83.1), (3, .int s73.2.1), (4, .int s83.2.1)] → (∀ (H : Heap) (locs : List Loc) (ls : Array Slot), va_P D vwCl (WX q cy e83.2 ++ rest) H → va_D A (WX q cy e83.2 ++ rest) → va_S A s.heap H locs → lv_has ls 5 [(0, .ref (q 15)), (1, .int a1), (2, .int e83.1), (3, .int s73.2.1)] → W p l e rmX2_addUp s m ([.ref (q 15), .int a1] : List Value).toArray below meth c H locs 0 0 (MQ below (kQv D A (WX q cy res ++ rest)) ([.ref (q 15), .int a1] : List Value).toArray s 0 0 A) (F0 m 131 ls [])) → W p l e rmX2_addUp s m ([.ref (q 15), .int a1] : List Value).toArray below meth c H locs 0 0 (MQ below (kQv D A (WX q cy res ++ rest)) ([.ref (q 15), .int a1] : List Value).toArray s 0 0 A) (F0 m 83 ls []) := by
          intro n83v
          induction n83v with
          | zero => intro s83 e83 h; exact (lpO_z h).elim
          | succ n83v ih83 =>
            intro s83 e83 h83z H locs ls hP hD hS hl K83_0
            obtain ⟨x83, hf, h83z⟩ := lpO_s h83z
            unfold mX2_addUp_s83 at hf
            refine lv_iload hx hb dX2_addUp_83 (lv_at hl 4 rfl) ?_
            refine lv_iconst (v := 4) hx hb dX2_addUp_85 (by decide) ?_
            refine lv_icmp_ge (tgt := 131) hx hb dX2_addUp_86 (by decide) (fun c86 => ?_) (fun c86 => ?_)
            · have hf := o_ip c86 hf
              obtain rfl := o_ret hf
              obtain rfl := lpK_l h83z
              exact K83_0 _ _ _ hP hD hS (lv_sub hl [0, 1, 2, 3] rfl)
            · have hf := o_in c86 hf
              refine lv_aload_n hx hb dX2_addUp_89 rfl (lv_at hl 0 rfl) ?_
              refine lv_bipush (v := 85) hx hb dX2_addUp_90 (by decide) ?_
              refine lv_iload_n hx hb dX2_addUp_92 rfl (lv_at hl 2 rfl) ?_
              refine lv_sipush (v := 441) hx hb dX2_addUp_93 (by decide) ?_
              refine lv_imul hx hb dX2_addUp_96 ?_
              refine lv_iadd hx hb dX2_addUp_97 ?_
              refine lv_iload_n hx hb dX2_addUp_98 rfl (lv_at hl 3 rfl) ?_
              refine lv_iload_n hx hb dX2_addUp_99 rfl (lv_at hl 1 rfl) ?_
              refine lv_icmp_ne (tgt := 107) hx hb dX2_addUp_100 (by decide) (fun c100 => ?_) (fun c100 => ?_)
              · have hf := o_in c100 hf
                refine lv_iconst (v := 0) hx hb dX2_addUp_107 (by decide) ?_
                refine lv_iload hx hb dX2_addUp_108 (lv_at hl 4 rfl) ?_
                refine lv_iload_n hx hb dX2_addUp_110 rfl (lv_at hl 1 rfl) ?_
                refine lv_icmp_ne (tgt := 118) hx hb dX2_addUp_111 (by decide) (fun c111 => ?_) (fun c111 => ?_)
                · have hf := o_in c111 hf
                  refine lv_iconst (v := 0) hx hb dX2_addUp_118 (by decide) ?_
                  obtain ⟨r119, h119r, hf⟩ := o_bs hf
                  refine k_gov (va_runV (As := [.int (85 + (s83.1 * 441)), .int 0, .int 0]) (rest := []) ⟨hx, hb, hml, hown, hts⟩ (zX2_addUpPair l D cy sa q rest H.size s83.2.2 (85 + (s83.1 * 441)) 0 0 r119 h119r) (cwV 3 hts (gB_V wB393 wB394 wB395 wB24 wB396) rfl rfl rfl (by decide +kernel) ⟨Nat.le_of_ble_eq_true rfl, Nat.le_of_ble_eq_true rfl⟩) ⟨kP.blind, k_recv hE hP (ci := 2) (q0 := 15) rfl rfl, k_pre hP hD hS hE hA⟩ rfl rfl hl.1 rfl (lv_room (Nat.le_of_ble_eq_true rfl)) dX2_addUp_119 ⟨Nat.zero_le _, Nat.zero_le _⟩) hD hS hA (fun H locs hP hD hS => ?_)
                  refine lv_iinc (v := (s83.1 + 1)) (lv' := [(2, .int (s83.1 + 1)), (0, .ref (q 15)), (1, .int a1), (3, .int s73.2.1), (4, .int s83.2.1)]) hx hb dX2_addUp_122 hl (k := 2) rfl (by rfl) (by decide) rfl (fun ls hl => ?_)
                  refine lv_iinc (v := (s83.2.1 + 1)) (lv' := [(4, .int (s83.2.1 + 1)), (2, .int (s83.1 + 1)), (0, .ref (q 15)), (1, .int a1), (3, .int s73.2.1)]) hx hb dX2_addUp_125 hl (k := 4) rfl (by rfl) (by decide) rfl (fun ls hl => ?_)
                  refine lv_goto (tgt := 83) hx hb dX2_addUp_128 (by decide) ?_
                  obtain rfl := o_ret hf
                  exact ih83 _ _ (lpK_r h83z) _ _ _ hP hD hS (lv_sub hl [2, 3, 1, 4, 0] rfl) K83_0
                · have hf := o_ip c111 hf
                  refine lv_iconst (v := 1) hx hb dX2_addUp_114 (by decide) ?_
                  refine lv_goto (tgt := 119) hx hb dX2_addUp_115 (by decide) ?_
                  obtain ⟨r119, h119r, hf⟩ := o_bs hf
                  refine k_gov (va_runV (As := [.int (85 + (s83.1 * 441)), .int 0, .int 1]) (rest := []) ⟨hx, hb, hml, hown, hts⟩ (zX2_addUpPair l D cy sa q rest H.size s83.2.2 (85 + (s83.1 * 441)) 0 1 r119 h119r) (cwV 3 hts (gB_V wB393 wB394 wB395 wB24 wB396) rfl rfl rfl (by decide +kernel) ⟨Nat.le_of_ble_eq_true rfl, Nat.le_of_ble_eq_true rfl⟩) ⟨kP.blind, k_recv hE hP (ci := 2) (q0 := 15) rfl rfl, k_pre hP hD hS hE hA⟩ rfl rfl hl.1 rfl (lv_room (Nat.le_of_ble_eq_true rfl)) dX2_addUp_119 ⟨Nat.zero_le _, Nat.zero_le _⟩) hD hS hA (fun H locs hP hD hS => ?_)
                  refine lv_iinc (v := (s83.1 + 1)) (lv' := [(2, .int (s83.1 + 1)), (0, .ref (q 15)), (1, .int a1), (3, .int s73.2.1), (4, .int s83.2.1)]) hx hb dX2_addUp_122 hl (k := 2) rfl (by rfl) (by decide) rfl (fun ls hl => ?_)
                  refine lv_iinc (v := (s83.2.1 + 1)) (lv' := [(4, .int (s83.2.1 + 1)), (2, .int (s83.1 + 1)), (0, .ref (q 15)), (1, .int a1), (3, .int s73.2.1)]) hx hb dX2_addUp_125 hl (k := 4) rfl (by rfl) (by decide) rfl (fun ls hl => ?_)
                  refine lv_goto (tgt := 83) hx hb dX2_addUp_128 (by decide) ?_
                  obtain rfl := o_ret hf
                  exact ih83 _ _ (lpK_r h83z) _ _ _ hP hD hS (lv_sub hl [2, 3, 1, 4, 0] rfl) K83_0
              · have hf := o_ip c100 hf
                refine lv_iconst (v := 1) hx hb dX2_addUp_103 (by decide) ?_
                refine lv_goto (tgt := 108) hx hb dX2_addUp_104 (by decide) ?_
                refine lv_iload hx hb dX2_addUp_108 (lv_at hl 4 rfl) ?_
                refine lv_iload_n hx hb dX2_addUp_110 rfl (lv_at hl 1 rfl) ?_
                refine lv_icmp_ne (tgt := 118) hx hb dX2_addUp_111 (by decide) (fun c111 => ?_) (fun c111 => ?_)
                · have hf := o_in c111 hf
                  refine lv_iconst (v := 0) hx hb dX2_addUp_118 (by decide) ?_
                  obtain ⟨r119, h119r, hf⟩ := o_bs hf
                  refine k_gov (va_runV (As := [.int (85 + (s83.1 * 441)), .int 1, .int 0]) (rest := []) ⟨hx, hb, hml, hown, hts⟩ (zX2_addUpPair l D cy sa q rest H.size s83.2.2 (85 + (s83.1 * 441)) 1 0 r119 h119r) (cwV 3 hts (gB_V wB393 wB394 wB395 wB24 wB396) rfl rfl rfl (by decide +kernel) ⟨Nat.le_of_ble_eq_true rfl, Nat.le_of_ble_eq_true rfl⟩) ⟨kP.blind, k_recv hE hP (ci := 2) (q0 := 15) rfl rfl, k_pre hP hD hS hE hA⟩ rfl rfl hl.1 rfl (lv_room (Nat.le_of_ble_eq_true rfl)) dX2_addUp_119 ⟨Nat.zero_le _, Nat.zero_le _⟩) hD hS hA (fun H locs hP hD hS => ?_)
                  refine lv_iinc (v := (s83.1 + 1)) (lv' := [(2, .int (s83.1 + 1)), (0, .ref (q 15)), (1, .int a1), (3, .int s73.2.1), (4, .int s83.2.1)]) hx hb dX2_addUp_122 hl (k := 2) rfl (by rfl) (by decide) rfl (fun ls hl => ?_)
                  refine lv_iinc (v := (s83.2.1 + 1)) (lv' := [(4, .int (s83.2.1 + 1)), (2, .int (s83.1 + 1)), (0, .ref (q 15)), (1, .int a1), (3, .int s73.2.1)]) hx hb dX2_addUp_125 hl (k := 4) rfl (by rfl) (by decide) rfl (fun ls hl => ?_)
                  refine lv_goto (tgt := 83) hx hb dX2_addUp_128 (by decide) ?_
                  obtain rfl := o_ret hf
                  exact ih83 _ _ (lpK_r h83z) _ _ _ hP hD hS (lv_sub hl [2, 3, 1, 4, 0] rfl) K83_0
                · have hf := o_ip c111 hf
                  refine lv_iconst (v := 1) hx hb dX2_addUp_114 (by decide) ?_
                  refine lv_goto (tgt := 119) hx hb dX2_addUp_115 (by decide) ?_
                  obtain ⟨r119, h119r, hf⟩ := o_bs hf
                  refine k_gov (va_runV (As := [.int (85 + (s83.1 * 441)), .int 1, .int 1]) (rest := []) ⟨hx, hb, hml, hown, hts⟩ (zX2_addUpPair l D cy sa q rest H.size s83.2.2 (85 + (s83.1 * 441)) 1 1 r119 h119r) (cwV 3 hts (gB_V wB393 wB394 wB395 wB24 wB396) rfl rfl rfl (by decide +kernel) ⟨Nat.le_of_ble_eq_true rfl, Nat.le_of_ble_eq_true rfl⟩) ⟨kP.blind, k_recv hE hP (ci := 2) (q0 := 15) rfl rfl, k_pre hP hD hS hE hA⟩ rfl rfl hl.1 rfl (lv_room (Nat.le_of_ble_eq_true rfl)) dX2_addUp_119 ⟨Nat.zero_le _, Nat.zero_le _⟩) hD hS hA (fun H locs hP hD hS => ?_)
                  refine lv_iinc (v := (s83.1 + 1)) (lv' := [(2, .int (s83.1 + 1)), (0, .ref (q 15)), (1, .int a1), (3, .int s73.2.1), (4, .int s83.2.1)]) hx hb dX2_addUp_122 hl (k := 2) rfl (by rfl) (by decide) rfl (fun ls hl => ?_)
                  refine lv_iinc (v := (s83.2.1 + 1)) (lv' := [(4, .int (s83.2.1 + 1)), (2, .int (s83.1 + 1)), (0, .ref (q 15)), (1, .int a1), (3, .int s73.2.1)]) hx hb dX2_addUp_125 hl (k := 4) rfl (by rfl) (by decide) rfl (fun ls hl => ?_)
                  refine lv_goto (tgt := 83) hx hb dX2_addUp_128 (by decide) ?_
                  obtain rfl := o_ret hf
                  exact ih83 _ _ (lpK_r h83z) _ _ _ hP hD hS (lv_sub hl [2, 3, 1, 4, 0] rfl) K83_0
        obtain ⟨e83, h83q, hf⟩ := o_bs hf
        obtain ⟨n83v, h83q⟩ := lpF_ex h83q
        refine L83 n83v _ e83 h83q _ _ _ hP hD hS (lv_sub hl [1, 2, 3, 4, 0] rfl) ?_
        intro H locs ls hP hD hS hl
        refine lv_iinc (v := (s73.2.1 + 1)) (lv' := [(3, .int (s73.2.1 + 1)), (0, .ref (q 15)), (1, .int a1), (2, .int e83.1)]) hx hb dX2_addUp_131 hl (k := 3) rfl (by rfl) (by decide) rfl (fun ls hl => ?_)
        refine lv_goto (tgt := 73) hx hb dX2_addUp_134 (by decide) ?_
        obtain rfl := o_ret hf
        exact ih73 _ _ (lpK_r h73z) _ _ _ hP hD hS (lv_sub hl [1, 2, 3, 0] rfl) K73_0
  obtain ⟨e73, h73q, hf⟩ := o_bs hf
  obtain ⟨n73v, h73q⟩ := lpF_ex h73q
  refine L73 n73v _ e73 h73q _ _ _ hP hD hS (lv_sub hl [2, 3, 1, 0] rfl) ?_
  intro H locs ls hP hD hS hl
  obtain rfl := o_ret hf
  exact k_vret hx hb hr hP hD hS (Nat.zero_le _) (Nat.zero_le _) hlocks dX2_addUp_137
noncomputable def mX2_begin_s2 (c1 : Int32) (s2 : Int32 × KS) : Option ((KS) ⊕ (Int32 × KS)) :=
  if 21 ≤ s2.1 then
  (some (.inl s2.2))
  else
  ((mX5_at 7 (gR s2.2 3) (s2.1 / 3)).bind fun r20 =>
  gd (inb s2.1 21) (some (.inr ((s2.1 + 1), (sR s2.2 11 (upd (gR s2.2 11) (s2.1.toNatClampNeg) (r20 * (3 - (s2.1 - s2.1 / 3 * 3)))))))))
noncomputable def mX2_begin_s48  (s48 : Int32 × KS) : Option ((KS) ⊕ (Int32 × KS)) :=
  if 2731 ≤ s48.1 then
  (some (.inl s48.2))
  else
  (if 85 ≤ s48.1 then
  ((mX5_at 21 (gR s48.2 11) (((s48.1 - 85) - (s48.1 - 85) / 441 * 441) / 21)).bind fun r113 =>
  (mX5_at 21 (gR s48.2 11) (((s48.1 - 85) - (s48.1 - 85) / 441 * 441) - ((s48.1 - 85) - (s48.1 - 85) / 441 * 441) / 21 * 21)).bind fun r125 =>
  gd (inb s48.1 2731) (some (.inr ((s48.1 + 1), (sA s48.2 0 (vp_updL (gA s48.2 0) (s48.1.toNatClampNeg) ((r113 * r125).toInt64)))))))
  else
  ((mX5_at 21 (gR s48.2 11) ((s48.1 - 1) - (s48.1 - 1) / 21 * 21)).bind fun r80 =>
  gd (inb s48.1 2731) (some (.inr ((s48.1 + 1), (sA s48.2 0 (vp_updL (gA s48.2 0) (s48.1.toNatClampNeg) ((9 * r80).toInt64))))))))
noncomputable def mX2_begin (u : KS) (a1 : Int32) : Option (KS) :=
  (lpF (mX2_begin_s2 a1) (0, u)).bind fun e2 =>
  (mX5_set_ 2731 (gA e2 0) 0 (a1.toInt64)).bind fun r43 =>
  (lpF mX2_begin_s48 (1, (sA e2 0 r43))).bind fun e48 =>
  some e48
abbrev rmX2_begin : Room := { frames := 1, cells := 0, slots := 0, locals := 23 }
set_option maxRecDepth 100000 in
set_option maxHeartbeats 4000000 in
theorem zX2_begin (l : Launch) (D : va_G) (cy : Nat → ClassId) (sa : Nat → Nat) (q : Nat → Nat) (rest : va_W) (sz : Nat) (u : KS) (a1 : Int32) (res : KS) (hf : mX2_begin u a1 = some res) : kMv l yX2_begin (wsK yX2_begin cX2_begin 5 none) rmX2_begin D cy sa (WX q cy u ++ rest) sz [.ref (q 15), .int a1, .ref (q 6)] (WX q cy res ++ rest) 0 0 := by
  refine kM_of (Qc := fun A => kQv D A (WX q cy res ++ rest)) (cc := cX2_begin) (maxL := 5) (ret := none) (by decide) (Nat.le_of_ble_eq_true rfl) ?_
  intro p e s m below meth c A hx hb hml hr hts hown hlocks hin hA hP hD hS hE hsz ls hl
  have hown : s.vm.findClass RX2 = some m.cls := hown
  obtain ⟨H, hH0⟩ : ∃ H, H = s.heap := ⟨_, rfl⟩
  obtain ⟨locs, hlocs0⟩ : ∃ locs : List Loc, locs = [] := ⟨_, rfl⟩
  have hP : va_P D vwCl (WX q cy u ++ rest) H := by rw [hH0]; exact hP
  have hS : va_S A s.heap H locs := by rw [hH0, hlocs0]; exact hS
  have hl : lv_has ls 5 [(0, .ref (q 15)), (1, .int a1), (2, .ref (q 6))] := hl
  suffices hgoal : W p l e rmX2_begin s m ([.ref (q 15), .int a1, .ref (q 6)] : List Value).toArray below meth c H locs 0 0 (MQ below (kQv D A (WX q cy res ++ rest)) ([.ref (q 15), .int a1, .ref (q 6)] : List Value).toArray s 0 0 A) (F0 m 0 ls []) by rw [hH0, hlocs0] at hgoal; exact hgoal
  clear hH0 hlocs0
  unfold mX2_begin at hf
  refine lv_iconst (v := 0) hx hb dX2_begin_0 (by decide) ?_
  refine lv_istore_n (lv' := [(3, .int 0), (0, .ref (q 15)), (1, .int a1), (2, .ref (q 6))]) hx hb dX2_begin_1 rfl hl (by decide) rfl (fun ls hl => ?_)
  have L2 : ∀ (n2v : Nat) (s2 : Int32 × KS) (e2 : KS), lpO (mX2_begin_s2 a1) n2v s2 = some e2 → ∀ (H : Heap) (locs : List Loc) (ls : Array Slot), va_P D vwCl (WX q cy s2.2 ++ rest) H → va_D A (WX q cy s2.2 ++ rest) → va_S A s.heap H locs → lv_has ls 5 [(0, .ref (q 15)), (1, .int a1), (2, .ref (q 6)), (3, .int s2.1)] → (∀ (H : Heap) (locs : List Loc) (ls : Array Slot), va_P D vwCl (WX q cy e2 ++ rest) H → va_D A (WX q cy e2 ++ rest) → va_S A s.heap H locs → lv_has ls 5 [(0, .ref (q 15)), (1, .int a1)] → W p l e rmX2_begin s m ([.ref (q 15), .int a1, .ref (q 6)] : List Value).toArray below meth c H locs 0 0 (MQ below (kQv D A (WX q cy res ++ rest)) ([.ref (q 15), .int a1, .ref (q 6)] : List Value).toArray s 0 0 A) (F0 m 36 ls [])) → W p l e rmX2_begin s m ([.ref (q 15), .int a1, .ref (q 6)] : List Value).toArray below meth c H locs 0 0 (MQ below (kQv D A (WX q cy res ++ rest)) ([.ref (q 15), .int a1, .ref (q 6)] : List Value).toArray s 0 0 A) (F0 m 2 ls []) := by
    intro n2v
    induction n2v with
    | zero => intro s2 e2 h; exact (lpO_z h).elim
    | succ n2v ih2 =>
      intro s2 e2 h2z H locs ls hP hD hS hl K2_0
      obtain ⟨x2, hf, h2z⟩ := lpO_s h2z
      unfold mX2_begin_s2 at hf
      refine lv_iload_n hx hb dX2_begin_2 rfl (lv_at hl 3 rfl) ?_
      refine lv_aload_n hx hb dX2_begin_3 rfl (lv_at hl 0 rfl) ?_
      refine va_get (ci := 2) (v := .ref (q 16)) (C := RX2) (T := TX2) (N := 4) hx hb hts inlX2 hown hE.1 hP 15 rfl rfl 1 (by decide) (hts _ wB58) (fun _ h9 => h9) rfl dX2_begin_4 ?_
      refine va_alen (v := 21) hx hb hE.1 hP 16 0 rfl rfl rfl dX2_begin_7 ?_
      refine lv_icmp_ge (tgt := 36) hx hb dX2_begin_8 (by decide) (fun c8 => ?_) (fun c8 => ?_)
      · have hf := o_ip c8 hf
        obtain rfl := o_ret hf
        obtain rfl := lpK_l h2z
        exact K2_0 _ _ _ hP hD hS (lv_sub hl [0, 1] rfl)
      · have hf := o_in c8 hf
        refine lv_aload_n hx hb dX2_begin_11 rfl (lv_at hl 0 rfl) ?_
        refine va_get (ci := 2) (v := .ref (q 16)) (C := RX2) (T := TX2) (N := 4) hx hb hts inlX2 hown hE.1 hP 15 rfl rfl 1 (by decide) (hts _ wB58) (fun _ h9 => h9) rfl dX2_begin_12 ?_
        refine lv_iload_n hx hb dX2_begin_15 rfl (lv_at hl 3 rfl) ?_
        refine lv_aload_n hx hb dX2_begin_16 rfl (lv_at hl 2 rfl) ?_
        refine lv_iload_n hx hb dX2_begin_17 rfl (lv_at hl 3 rfl) ?_
        refine lv_iconst (v := 3) hx hb dX2_begin_18 (by decide) ?_
        refine lv_idiv hx hb dX2_begin_19 (by decide) ?_
        obtain ⟨r20, h20r, hf⟩ := o_bs hf
        refine k_goi (va_runSN (As := [.ref (q 6), .int (s2.1 / 3)]) (rest := [.int s2.1, .ref (q 16)]) ⟨hx, hb, hml, hown, hts⟩ (zX5_at l D cy sa (WX q cy s2.2 ++ rest) H.size 6 (q 6) 7 (gR s2.2 3) (s2.1 / 3) r20 rfl h20r) ⟨va_cnB 2 hts (gB_K wB112) rfl rfl rfl (hE.2.1.1 _ (List.mem_of_getElem? (i := 8) rfl)) (hts _ wB2) (by decide +kernel) ⟨Nat.le_of_ble_eq_true rfl, Nat.le_of_ble_eq_true rfl⟩, hts _ wB111, trivial⟩ ⟨kP.blind, k_pre hP hD hS hE hA⟩ rfl rfl hl.1 rfl (lv_room (Nat.le_of_ble_eq_true rfl)) dX2_begin_20 ⟨Nat.zero_le _, Nat.zero_le _⟩) hD hS hA (fun H locs hP hD hS => ?_)
        refine lv_iconst (v := 3) hx hb dX2_begin_23 (by decide) ?_
        refine lv_iload_n hx hb dX2_begin_24 rfl (lv_at hl 3 rfl) ?_
        refine lv_iconst (v := 3) hx hb dX2_begin_25 (by decide) ?_
        refine lv_irem hx hb dX2_begin_26 (by decide) ?_
        refine lv_isub hx hb dX2_begin_27 ?_
        refine lv_imul hx hb dX2_begin_28 ?_
        obtain ⟨hg29, hf⟩ := gd_s hf
        refine va_iast (f := (gR s2.2 11)) hx hb hE.1 hP hD hS 16 0 rfl rfl hg29 dX2_begin_29 (fun H locs hP hD hS => ?_)
        have hP : va_P D vwCl (WX q cy (sR s2.2 11 (upd (gR s2.2 11) (s2.1.toNatClampNeg) (r20 * (3 - (s2.1 - s2.1 / 3 * 3))))) ++ rest) H := hP
        have hD : va_D A (WX q cy (sR s2.2 11 (upd (gR s2.2 11) (s2.1.toNatClampNeg) (r20 * (3 - (s2.1 - s2.1 / 3 * 3))))) ++ rest) := hD
        refine lv_iinc (v := (s2.1 + 1)) (lv' := [(3, .int (s2.1 + 1)), (0, .ref (q 15)), (1, .int a1), (2, .ref (q 6))]) hx hb dX2_begin_30 hl (k := 3) rfl (by rfl) (by decide) rfl (fun ls hl => ?_)
        refine lv_goto (tgt := 2) hx hb dX2_begin_33 (by decide) ?_
        obtain rfl := o_ret hf
        exact ih2 _ _ (lpK_r h2z) _ _ _ hP hD hS (lv_sub hl [1, 2, 3, 0] rfl) K2_0
  obtain ⟨e2, h2q, hf⟩ := o_bs hf
  obtain ⟨n2v, h2q⟩ := lpF_ex h2q
  refine L2 n2v _ e2 h2q _ _ _ hP hD hS (lv_sub hl [1, 2, 3, 0] rfl) ?_
  intro H locs ls hP hD hS hl
  refine lv_aload_n hx hb dX2_begin_36 rfl (lv_at hl 0 rfl) ?_
  refine va_get (ci := 2) (v := .ref (q 17)) (C := RX2) (T := TX2) (N := 4) hx hb hts inlX2 hown hE.1 hP 15 rfl rfl 2 (by decide) (hts _ wB60) (fun _ h9 => h9) rfl dX2_begin_37 ?_
  refine lv_iconst (v := 0) hx hb dX2_begin_40 (by decide) ?_
  refine lv_iload_n hx hb dX2_begin_41 rfl (lv_at hl 1 rfl) ?_
  refine lv_i2l (v := (a1.toInt64)) hx hb dX2_begin_42 rfl ?_
  obtain ⟨r43, h43r, hf⟩ := o_bs hf
  refine k_gov (va_runSN (As := [.ref (q 17), .int 0, .long (a1.toInt64)]) (rest := []) ⟨hx, hb, hml, hown, hts⟩ (zX5_set_ l D cy sa (WX q cy e2 ++ rest) H.size 17 (q 17) 2731 (gA e2 0) 0 (a1.toInt64) r43 rfl h43r) ⟨va_cnB 3 hts (gB_K wB383) rfl rfl rfl (hE.2.1.1 _ (List.mem_of_getElem? (i := 11) rfl)) (hts _ wB2) (by decide +kernel) ⟨Nat.le_of_ble_eq_true rfl, Nat.le_of_ble_eq_true rfl⟩, hts _ wB382, trivial⟩ ⟨kP.blind, k_pre hP hD hS hE hA⟩ rfl rfl hl.1 rfl (lv_room (Nat.le_of_ble_eq_true rfl)) dX2_begin_43 ⟨Nat.zero_le _, Nat.zero_le _⟩) hD hS hA (fun H locs hP hD hS => ?_)
  have hP : va_P D vwCl (WX q cy (sA e2 0 r43) ++ rest) H := hP
  have hD : va_D A (WX q cy (sA e2 0 r43) ++ rest) := hD
  refine lv_iconst (v := 1) hx hb dX2_begin_46 (by decide) ?_
  refine lv_istore_n (lv' := [(3, .int 1), (0, .ref (q 15)), (1, .int a1)]) hx hb dX2_begin_47 rfl hl (by decide) rfl (fun ls hl => ?_)
  have L48 : ∀ (n48v : Nat) (s48 : Int32 × KS) (e48 : KS), lpO mX2_begin_s48 n48v s48 = some e48 → ∀ (H : Heap) (locs : List Loc) (ls : Array Slot), va_P D vwCl (WX q cy s48.2 ++ rest) H → va_D A (WX q cy s48.2 ++ rest) → va_S A s.heap H locs → lv_has ls 5 [(0, .ref (q 15)), (3, .int s48.1)] → (∀ (H : Heap) (locs : List Loc) (ls : Array Slot), va_P D vwCl (WX q cy e48 ++ rest) H → va_D A (WX q cy e48 ++ rest) → va_S A s.heap H locs → lv_has ls 5 [] → W p l e rmX2_begin s m ([.ref (q 15), .int a1, .ref (q 6)] : List Value).toArray below meth c H locs 0 0 (MQ below (kQv D A (WX q cy res ++ rest)) ([.ref (q 15), .int a1, .ref (q 6)] : List Value).toArray s 0 0 A) (F0 m 137 ls [])) → W p l e rmX2_begin s m ([.ref (q 15), .int a1, .ref (q 6)] : List Value).toArray below meth c H locs 0 0 (MQ below (kQv D A (WX q cy res ++ rest)) ([.ref (q 15), .int a1, .ref (q 6)] : List Value).toArray s 0 0 A) (F0 m 48 ls []) := by
    intro n48v
    induction n48v with
    | zero => intro s48 e48 h; exact (lpO_z h).elim
    | succ n48v ih48 =>
      intro s48 e48 h48z H locs ls hP hD hS hl K48_0
      obtain ⟨x48, hf, h48z⟩ := lpO_s h48z
      unfold mX2_begin_s48 at hf
      refine lv_iload_n hx hb dX2_begin_48 rfl (lv_at hl 1 rfl) ?_
      refine lv_aload_n hx hb dX2_begin_49 rfl (lv_at hl 0 rfl) ?_
      refine va_get (ci := 2) (v := .ref (q 17)) (C := RX2) (T := TX2) (N := 4) hx hb hts inlX2 hown hE.1 hP 15 rfl rfl 2 (by decide) (hts _ wB60) (fun _ h9 => h9) rfl dX2_begin_50 ?_
      refine va_alen (v := 2731) hx hb hE.1 hP 17 1 rfl rfl rfl dX2_begin_53 ?_
      refine lv_icmp_ge (tgt := 137) hx hb dX2_begin_54 (by decide) (fun c54 => ?_) (fun c54 => ?_)
      · have hf := o_ip c54 hf
        obtain rfl := o_ret hf
        obtain rfl := lpK_l h48z
        exact K48_0 _ _ _ hP hD hS (lv_sub hl [] rfl)
      · have hf := o_in c54 hf
        refine lv_iload_n hx hb dX2_begin_57 rfl (lv_at hl 1 rfl) ?_
        refine lv_bipush (v := 85) hx hb dX2_begin_58 (by decide) ?_
        refine lv_icmp_ge (tgt := 89) hx hb dX2_begin_60 (by decide) (fun c60 => ?_) (fun c60 => ?_)
        · have hf := o_ip c60 hf
          refine lv_iload_n hx hb dX2_begin_89 rfl (lv_at hl 1 rfl) ?_
          refine lv_bipush (v := 85) hx hb dX2_begin_90 (by decide) ?_
          refine lv_isub hx hb dX2_begin_92 ?_
          refine lv_sipush (v := 441) hx hb dX2_begin_93 (by decide) ?_
          refine lv_irem hx hb dX2_begin_96 (by decide) ?_
          refine lv_istore (lv' := [(4, .int ((s48.1 - 85) - (s48.1 - 85) / 441 * 441)), (0, .ref (q 15)), (3, .int s48.1)]) hx hb dX2_begin_97 hl (by decide) rfl (fun ls hl => ?_)
          refine lv_aload_n hx hb dX2_begin_99 rfl (lv_at hl 1 rfl) ?_
          refine va_get (ci := 2) (v := .ref (q 17)) (C := RX2) (T := TX2) (N := 4) hx hb hts inlX2 hown hE.1 hP 15 rfl rfl 2 (by decide) (hts _ wB60) (fun _ h9 => h9) rfl dX2_begin_100 ?_
          refine lv_iload_n hx hb dX2_begin_103 rfl (lv_at hl 2 rfl) ?_
          refine lv_aload_n hx hb dX2_begin_104 rfl (lv_at hl 1 rfl) ?_
          refine va_get (ci := 2) (v := .ref (q 16)) (C := RX2) (T := TX2) (N := 4) hx hb hts inlX2 hown hE.1 hP 15 rfl rfl 1 (by decide) (hts _ wB58) (fun _ h9 => h9) rfl dX2_begin_105 ?_
          refine lv_iload hx hb dX2_begin_108 (lv_at hl 0 rfl) ?_
          refine lv_bipush (v := 21) hx hb dX2_begin_110 (by decide) ?_
          refine lv_idiv hx hb dX2_begin_112 (by decide) ?_
          obtain ⟨r113, h113r, hf⟩ := o_bs hf
          refine k_goi (va_runSN (As := [.ref (q 16), .int (((s48.1 - 85) - (s48.1 - 85) / 441 * 441) / 21)]) (rest := [.int s48.1, .ref (q 17)]) ⟨hx, hb, hml, hown, hts⟩ (zX5_at l D cy sa (WX q cy s48.2 ++ rest) H.size 16 (q 16) 21 (gR s48.2 11) (((s48.1 - 85) - (s48.1 - 85) / 441 * 441) / 21) r113 rfl h113r) ⟨va_cnB 2 hts (gB_K wB112) rfl rfl rfl (hE.2.1.1 _ (List.mem_of_getElem? (i := 8) rfl)) (hts _ wB2) (by decide +kernel) ⟨Nat.le_of_ble_eq_true rfl, Nat.le_of_ble_eq_true rfl⟩, hts _ wB111, trivial⟩ ⟨kP.blind, k_pre hP hD hS hE hA⟩ rfl rfl hl.1 rfl (lv_room (Nat.le_of_ble_eq_true rfl)) dX2_begin_113 ⟨Nat.zero_le _, Nat.zero_le _⟩) hD hS hA (fun H locs hP hD hS => ?_)
          refine lv_aload_n hx hb dX2_begin_116 rfl (lv_at hl 1 rfl) ?_
          refine va_get (ci := 2) (v := .ref (q 16)) (C := RX2) (T := TX2) (N := 4) hx hb hts inlX2 hown hE.1 hP 15 rfl rfl 1 (by decide) (hts _ wB58) (fun _ h9 => h9) rfl dX2_begin_117 ?_
          refine lv_iload hx hb dX2_begin_120 (lv_at hl 0 rfl) ?_
          refine lv_bipush (v := 21) hx hb dX2_begin_122 (by decide) ?_
          refine lv_irem hx hb dX2_begin_124 (by decide) ?_
          obtain ⟨r125, h125r, hf⟩ := o_bs hf
          refine k_goi (va_runSN (As := [.ref (q 16), .int (((s48.1 - 85) - (s48.1 - 85) / 441 * 441) - ((s48.1 - 85) - (s48.1 - 85) / 441 * 441) / 21 * 21)]) (rest := [.int r113, .int s48.1, .ref (q 17)]) ⟨hx, hb, hml, hown, hts⟩ (zX5_at l D cy sa (WX q cy s48.2 ++ rest) H.size 16 (q 16) 21 (gR s48.2 11) (((s48.1 - 85) - (s48.1 - 85) / 441 * 441) - ((s48.1 - 85) - (s48.1 - 85) / 441 * 441) / 21 * 21) r125 rfl h125r) ⟨va_cnB 2 hts (gB_K wB112) rfl rfl rfl (hE.2.1.1 _ (List.mem_of_getElem? (i := 8) rfl)) (hts _ wB2) (by decide +kernel) ⟨Nat.le_of_ble_eq_true rfl, Nat.le_of_ble_eq_true rfl⟩, hts _ wB111, trivial⟩ ⟨kP.blind, k_pre hP hD hS hE hA⟩ rfl rfl hl.1 rfl (lv_room (Nat.le_of_ble_eq_true rfl)) dX2_begin_125 ⟨Nat.zero_le _, Nat.zero_le _⟩) hD hS hA (fun H locs hP hD hS => ?_)
          refine lv_imul hx hb dX2_begin_128 ?_
          refine lv_i2l (v := ((r113 * r125).toInt64)) hx hb dX2_begin_129 rfl ?_
          obtain ⟨hg130, hf⟩ := gd_s hf
          refine va_last (f := (gA s48.2 0)) hx hb hE.1 hP hD hS 17 1 rfl rfl hg130 dX2_begin_130 (fun H locs hP hD hS => ?_)
          have hP : va_P D vwCl (WX q cy (sA s48.2 0 (vp_updL (gA s48.2 0) (s48.1.toNatClampNeg) ((r113 * r125).toInt64))) ++ rest) H := hP
          have hD : va_D A (WX q cy (sA s48.2 0 (vp_updL (gA s48.2 0) (s48.1.toNatClampNeg) ((r113 * r125).toInt64))) ++ rest) := hD
          refine lv_iinc (v := (s48.1 + 1)) (lv' := [(3, .int (s48.1 + 1)), (4, .int ((s48.1 - 85) - (s48.1 - 85) / 441 * 441)), (0, .ref (q 15))]) hx hb dX2_begin_131 hl (k := 2) rfl (by rfl) (by decide) rfl (fun ls hl => ?_)
          refine lv_goto (tgt := 48) hx hb dX2_begin_134 (by decide) ?_
          obtain rfl := o_ret hf
          exact ih48 _ _ (lpK_r h48z) _ _ _ hP hD hS (lv_sub hl [2, 0] rfl) K48_0
        · have hf := o_in c60 hf
          refine lv_aload_n hx hb dX2_begin_63 rfl (lv_at hl 0 rfl) ?_
          refine va_get (ci := 2) (v := .ref (q 17)) (C := RX2) (T := TX2) (N := 4) hx hb hts inlX2 hown hE.1 hP 15 rfl rfl 2 (by decide) (hts _ wB60) (fun _ h9 => h9) rfl dX2_begin_64 ?_
          refine lv_iload_n hx hb dX2_begin_67 rfl (lv_at hl 1 rfl) ?_
          refine lv_bipush (v := 9) hx hb dX2_begin_68 (by decide) ?_
          refine lv_aload_n hx hb dX2_begin_70 rfl (lv_at hl 0 rfl) ?_
          refine va_get (ci := 2) (v := .ref (q 16)) (C := RX2) (T := TX2) (N := 4) hx hb hts inlX2 hown hE.1 hP 15 rfl rfl 1 (by decide) (hts _ wB58) (fun _ h9 => h9) rfl dX2_begin_71 ?_
          refine lv_iload_n hx hb dX2_begin_74 rfl (lv_at hl 1 rfl) ?_
          refine lv_iconst (v := 1) hx hb dX2_begin_75 (by decide) ?_
          refine lv_isub hx hb dX2_begin_76 ?_
          refine lv_bipush (v := 21) hx hb dX2_begin_77 (by decide) ?_
          refine lv_irem hx hb dX2_begin_79 (by decide) ?_
          obtain ⟨r80, h80r, hf⟩ := o_bs hf
          refine k_goi (va_runSN (As := [.ref (q 16), .int ((s48.1 - 1) - (s48.1 - 1) / 21 * 21)]) (rest := [.int 9, .int s48.1, .ref (q 17)]) ⟨hx, hb, hml, hown, hts⟩ (zX5_at l D cy sa (WX q cy s48.2 ++ rest) H.size 16 (q 16) 21 (gR s48.2 11) ((s48.1 - 1) - (s48.1 - 1) / 21 * 21) r80 rfl h80r) ⟨va_cnB 2 hts (gB_K wB112) rfl rfl rfl (hE.2.1.1 _ (List.mem_of_getElem? (i := 8) rfl)) (hts _ wB2) (by decide +kernel) ⟨Nat.le_of_ble_eq_true rfl, Nat.le_of_ble_eq_true rfl⟩, hts _ wB111, trivial⟩ ⟨kP.blind, k_pre hP hD hS hE hA⟩ rfl rfl hl.1 rfl (lv_room (Nat.le_of_ble_eq_true rfl)) dX2_begin_80 ⟨Nat.zero_le _, Nat.zero_le _⟩) hD hS hA (fun H locs hP hD hS => ?_)
          refine lv_imul hx hb dX2_begin_83 ?_
          refine lv_i2l (v := ((9 * r80).toInt64)) hx hb dX2_begin_84 rfl ?_
          obtain ⟨hg85, hf⟩ := gd_s hf
          refine va_last (f := (gA s48.2 0)) hx hb hE.1 hP hD hS 17 1 rfl rfl hg85 dX2_begin_85 (fun H locs hP hD hS => ?_)
          have hP : va_P D vwCl (WX q cy (sA s48.2 0 (vp_updL (gA s48.2 0) (s48.1.toNatClampNeg) ((9 * r80).toInt64))) ++ rest) H := hP
          have hD : va_D A (WX q cy (sA s48.2 0 (vp_updL (gA s48.2 0) (s48.1.toNatClampNeg) ((9 * r80).toInt64))) ++ rest) := hD
          refine lv_goto (tgt := 131) hx hb dX2_begin_86 (by decide) ?_
          refine lv_iinc (v := (s48.1 + 1)) (lv' := [(3, .int (s48.1 + 1)), (0, .ref (q 15))]) hx hb dX2_begin_131 hl (k := 1) rfl (by rfl) (by decide) rfl (fun ls hl => ?_)
          refine lv_goto (tgt := 48) hx hb dX2_begin_134 (by decide) ?_
          obtain rfl := o_ret hf
          exact ih48 _ _ (lpK_r h48z) _ _ _ hP hD hS (lv_sub hl [1, 0] rfl) K48_0
  obtain ⟨e48, h48q, hf⟩ := o_bs hf
  obtain ⟨n48v, h48q⟩ := lpF_ex h48q
  refine L48 n48v _ e48 h48q _ _ _ hP hD hS (lv_sub hl [1, 0] rfl) ?_
  intro H locs ls hP hD hS hl
  obtain rfl := o_ret hf
  exact k_vret hx hb hr hP hD hS (Nat.zero_le _) (Nat.zero_le _) hlocks dX2_begin_137
noncomputable def mX2_below_s5 (u : KS) (c1 : Int32) (s5 : Int64 × Int32) : Option ((Int64) ⊕ (Int64 × Int32)) :=
  if 2731 ≤ s5.2 then
  (some (.inl s5.1))
  else
  ((mX5_at 2731 (gR u 12) s5.2).bind fun r21 =>
  if c1 ≤ r21 then
  (some (.inr (s5.1, (s5.2 + 1))))
  else
  (gd (inb s5.2 2731) (some (.inr ((s5.1 + ((gA u 0) (s5.2.toNatClampNeg))), (s5.2 + 1))))))
noncomputable def mX2_below (u : KS) (a1 : Int32) : Option (Int64) :=
  (lpF (mX2_below_s5 u a1) (0, 0)).bind fun e5 =>
  some e5
abbrev rmX2_below : Room := { frames := 1, cells := 0, slots := 0, locals := 21 }
set_option maxRecDepth 100000 in
set_option maxHeartbeats 4000000 in
theorem zX2_below (l : Launch) (D : va_G) (cy : Nat → ClassId) (sa : Nat → Nat) (q : Nat → Nat) (rest : va_W) (sz : Nat) (u : KS) (a1 : Int32) (res : Int64) (hf : mX2_below u a1 = some res) : kMl l yX2_below (wsK yX2_below cX2_below 5 (some .long)) rmX2_below D cy sa (WX q cy u ++ rest) sz [.ref (q 15), .int a1] res (WX q cy u ++ rest) 0 0 := by
  refine kM_of (Qc := fun A => kQl D A res (WX q cy u ++ rest)) (cc := cX2_below) (maxL := 5) (ret := (some .long)) (by decide) (Nat.le_of_ble_eq_true rfl) ?_
  intro p e s m below meth c A hx hb hml hr hts hown hlocks hin hA hP hD hS hE hsz ls hl
  have hown : s.vm.findClass RX2 = some m.cls := hown
  obtain ⟨H, hH0⟩ : ∃ H, H = s.heap := ⟨_, rfl⟩
  obtain ⟨locs, hlocs0⟩ : ∃ locs : List Loc, locs = [] := ⟨_, rfl⟩
  have hP : va_P D vwCl (WX q cy u ++ rest) H := by rw [hH0]; exact hP
  have hS : va_S A s.heap H locs := by rw [hH0, hlocs0]; exact hS
  have hl : lv_has ls 5 [(0, .ref (q 15)), (1, .int a1)] := hl
  suffices hgoal : W p l e rmX2_below s m ([.ref (q 15), .int a1] : List Value).toArray below meth c H locs 0 0 (MQ below (kQl D A res (WX q cy u ++ rest)) ([.ref (q 15), .int a1] : List Value).toArray s 0 0 A) (F0 m 0 ls []) by rw [hH0, hlocs0] at hgoal; exact hgoal
  clear hH0 hlocs0
  unfold mX2_below at hf
  refine lv_lconst (v := 0) hx hb dX2_below_0 (by decide) ?_
  refine lv_lstore_n (lv' := [(2, .long 0), (0, .ref (q 15)), (1, .int a1)]) hx hb dX2_below_1 rfl hl (by decide) rfl (fun ls hl => ?_)
  refine lv_iconst (v := 0) hx hb dX2_below_2 (by decide) ?_
  refine lv_istore (lv' := [(4, .int 0), (2, .long 0), (0, .ref (q 15)), (1, .int a1)]) hx hb dX2_below_3 hl (by decide) rfl (fun ls hl => ?_)
  have L5 : ∀ (n5v : Nat) (s5 : Int64 × Int32) (e5 : Int64), lpO (mX2_below_s5 u a1) n5v s5 = some e5 → ∀ (H : Heap) (locs : List Loc) (ls : Array Slot), va_P D vwCl (WX q cy u ++ rest) H → va_D A (WX q cy u ++ rest) → va_S A s.heap H locs → lv_has ls 5 [(0, .ref (q 15)), (1, .int a1), (2, .long s5.1), (4, .int s5.2)] → (∀ (H : Heap) (locs : List Loc) (ls : Array Slot), va_P D vwCl (WX q cy u ++ rest) H → va_D A (WX q cy u ++ rest) → va_S A s.heap H locs → lv_has ls 5 [(2, .long e5)] → W p l e rmX2_below s m ([.ref (q 15), .int a1] : List Value).toArray below meth c H locs 0 0 (MQ below (kQl D A res (WX q cy u ++ rest)) ([.ref (q 15), .int a1] : List Value).toArray s 0 0 A) (F0 m 44 ls [])) → W p l e rmX2_below s m ([.ref (q 15), .int a1] : List Value).toArray below meth c H locs 0 0 (MQ below (kQl D A res (WX q cy u ++ rest)) ([.ref (q 15), .int a1] : List Value).toArray s 0 0 A) (F0 m 5 ls []) := by
    intro n5v
    induction n5v with
    | zero => intro s5 e5 h; exact (lpO_z h).elim
    | succ n5v ih5 =>
      intro s5 e5 h5z H locs ls hP hD hS hl K5_0
      obtain ⟨x5, hf, h5z⟩ := lpO_s h5z
      unfold mX2_below_s5 at hf
      refine lv_iload hx hb dX2_below_5 (lv_at hl 3 rfl) ?_
      refine lv_aload_n hx hb dX2_below_7 rfl (lv_at hl 0 rfl) ?_
      refine va_get (ci := 2) (v := .ref (q 17)) (C := RX2) (T := TX2) (N := 4) hx hb hts inlX2 hown hE.1 hP 15 rfl rfl 2 (by decide) (hts _ wB60) (fun _ h9 => h9) rfl dX2_below_8 ?_
      refine va_alen (v := 2731) hx hb hE.1 hP 17 1 rfl rfl rfl dX2_below_11 ?_
      refine lv_icmp_ge (tgt := 44) hx hb dX2_below_12 (by decide) (fun c12 => ?_) (fun c12 => ?_)
      · have hf := o_ip c12 hf
        obtain rfl := o_ret hf
        obtain rfl := lpK_l h5z
        exact K5_0 _ _ _ hP hD hS (lv_sub hl [2] rfl)
      · have hf := o_in c12 hf
        refine lv_aload_n hx hb dX2_below_15 rfl (lv_at hl 0 rfl) ?_
        refine va_get (ci := 2) (v := .ref (q 18)) (C := RX2) (T := TX2) (N := 4) hx hb hts inlX2 hown hE.1 hP 15 rfl rfl 3 (by decide) (hts _ wB61) (fun _ h9 => h9) rfl dX2_below_16 ?_
        refine lv_iload hx hb dX2_below_19 (lv_at hl 3 rfl) ?_
        obtain ⟨r21, h21r, hf⟩ := o_bs hf
        refine k_goi (va_runSN (As := [.ref (q 18), .int s5.2]) (rest := []) ⟨hx, hb, hml, hown, hts⟩ (zX5_at l D cy sa (WX q cy u ++ rest) H.size 18 (q 18) 2731 (gR u 12) s5.2 r21 rfl h21r) ⟨va_cnB 2 hts (gB_K wB112) rfl rfl rfl (hE.2.1.1 _ (List.mem_of_getElem? (i := 8) rfl)) (hts _ wB2) (by decide +kernel) ⟨Nat.le_of_ble_eq_true rfl, Nat.le_of_ble_eq_true rfl⟩, hts _ wB111, trivial⟩ ⟨kP.blind, k_pre hP hD hS hE hA⟩ rfl rfl hl.1 rfl (lv_room (Nat.le_of_ble_eq_true rfl)) dX2_below_21 ⟨Nat.zero_le _, Nat.zero_le _⟩) hD hS hA (fun H locs hP hD hS => ?_)
        refine lv_iload_n hx hb dX2_below_24 rfl (lv_at hl 1 rfl) ?_
        refine lv_icmp_ge (tgt := 38) hx hb dX2_below_25 (by decide) (fun c25 => ?_) (fun c25 => ?_)
        · have hf := o_ip c25 hf
          refine lv_iinc (v := (s5.2 + 1)) (lv' := [(4, .int (s5.2 + 1)), (0, .ref (q 15)), (1, .int a1), (2, .long s5.1)]) hx hb dX2_below_38 hl (k := 3) rfl (by rfl) (by decide) rfl (fun ls hl => ?_)
          refine lv_goto (tgt := 5) hx hb dX2_below_41 (by decide) ?_
          obtain rfl := o_ret hf
          exact ih5 _ _ (lpK_r h5z) _ _ _ hP hD hS (lv_sub hl [1, 2, 3, 0] rfl) K5_0
        · have hf := o_in c25 hf
          refine lv_lload_n hx hb dX2_below_28 rfl (lv_at hl 2 rfl) ?_
          refine lv_aload_n hx hb dX2_below_29 rfl (lv_at hl 0 rfl) ?_
          refine va_get (ci := 2) (v := .ref (q 17)) (C := RX2) (T := TX2) (N := 4) hx hb hts inlX2 hown hE.1 hP 15 rfl rfl 2 (by decide) (hts _ wB60) (fun _ h9 => h9) rfl dX2_below_30 ?_
          refine lv_iload hx hb dX2_below_33 (lv_at hl 3 rfl) ?_
          obtain ⟨hg35, hf⟩ := gd_s hf
          refine va_lald (f := (gA u 0)) hx hb hE.1 hP 17 1 rfl rfl hg35 dX2_below_35 ?_
          refine lv_ladd hx hb dX2_below_36 ?_
          refine lv_lstore_n (lv' := [(2, .long (s5.1 + ((gA u 0) (s5.2.toNatClampNeg)))), (0, .ref (q 15)), (1, .int a1), (4, .int s5.2)]) hx hb dX2_below_37 rfl hl (by decide) rfl (fun ls hl => ?_)
          refine lv_iinc (v := (s5.2 + 1)) (lv' := [(4, .int (s5.2 + 1)), (2, .long (s5.1 + ((gA u 0) (s5.2.toNatClampNeg)))), (0, .ref (q 15)), (1, .int a1)]) hx hb dX2_below_38 hl (k := 3) rfl (by rfl) (by decide) rfl (fun ls hl => ?_)
          refine lv_goto (tgt := 5) hx hb dX2_below_41 (by decide) ?_
          obtain rfl := o_ret hf
          exact ih5 _ _ (lpK_r h5z) _ _ _ hP hD hS (lv_sub hl [2, 3, 1, 0] rfl) K5_0
  obtain ⟨e5, h5q, hf⟩ := o_bs hf
  obtain ⟨n5v, h5q⟩ := lpF_ex h5q
  refine L5 n5v _ e5 h5q _ _ _ hP hD hS (lv_sub hl [2, 3, 1, 0] rfl) ?_
  intro H locs ls hP hD hS hl
  refine lv_lload_n hx hb dX2_below_44 rfl (lv_at hl 0 rfl) ?_
  obtain rfl := o_ret hf
  exact k_lret hx hb hr hP hD hS (Nat.zero_le _) (Nat.zero_le _) hlocks dX2_below_45
noncomputable def mX2_faultIn (a0 : Int32) (a1 : Int32) : Option (Int32) :=
  if 1 ≤ a0 then
  (if 85 ≤ a0 then
  (if 3 ≤ ((a0 - 85) / 441) then
  (if 5 ≤ ((a0 - 85) / 441) then
  (if 3 ≤ ((a0 - 85) / 441) then
  (if 5 ≤ ((a0 - 85) / 441) then
  (if a1 = 2 then
  (some (((a0 - 85) - (a0 - 85) / 441 * 441) / 21))
  else
  (if a1 = 3 then
  (some (((a0 - 85) - (a0 - 85) / 441 * 441) - ((a0 - 85) - (a0 - 85) / 441 * 441) / 21 * 21))
  else
  (some (-1))))
  else
  (if a1 = 2 then
  (some (((a0 - 85) - (a0 - 85) / 441 * 441) / 21))
  else
  (if a1 = (((a0 - 85) / 441) - 1) then
  (some (((a0 - 85) - (a0 - 85) / 441 * 441) - ((a0 - 85) - (a0 - 85) / 441 * 441) / 21 * 21))
  else
  (some (-1)))))
  else
  (if a1 = 2 then
  (some (((a0 - 85) - (a0 - 85) / 441 * 441) / 21))
  else
  (if a1 = (((a0 - 85) / 441) + 1) then
  (some (((a0 - 85) - (a0 - 85) / 441 * 441) - ((a0 - 85) - (a0 - 85) / 441 * 441) / 21 * 21))
  else
  (some (-1)))))
  else
  (if 3 ≤ ((a0 - 85) / 441) then
  (if 5 ≤ ((a0 - 85) / 441) then
  (if a1 = 1 then
  (some (((a0 - 85) - (a0 - 85) / 441 * 441) / 21))
  else
  (if a1 = 3 then
  (some (((a0 - 85) - (a0 - 85) / 441 * 441) - ((a0 - 85) - (a0 - 85) / 441 * 441) / 21 * 21))
  else
  (some (-1))))
  else
  (if a1 = 1 then
  (some (((a0 - 85) - (a0 - 85) / 441 * 441) / 21))
  else
  (if a1 = (((a0 - 85) / 441) - 1) then
  (some (((a0 - 85) - (a0 - 85) / 441 * 441) - ((a0 - 85) - (a0 - 85) / 441 * 441) / 21 * 21))
  else
  (some (-1)))))
  else
  (if a1 = 1 then
  (some (((a0 - 85) - (a0 - 85) / 441 * 441) / 21))
  else
  (if a1 = (((a0 - 85) / 441) + 1) then
  (some (((a0 - 85) - (a0 - 85) / 441 * 441) - ((a0 - 85) - (a0 - 85) / 441 * 441) / 21 * 21))
  else
  (some (-1))))))
  else
  (if 3 ≤ ((a0 - 85) / 441) then
  (if 5 ≤ ((a0 - 85) / 441) then
  (if a1 = 0 then
  (some (((a0 - 85) - (a0 - 85) / 441 * 441) / 21))
  else
  (if a1 = 3 then
  (some (((a0 - 85) - (a0 - 85) / 441 * 441) - ((a0 - 85) - (a0 - 85) / 441 * 441) / 21 * 21))
  else
  (some (-1))))
  else
  (if a1 = 0 then
  (some (((a0 - 85) - (a0 - 85) / 441 * 441) / 21))
  else
  (if a1 = (((a0 - 85) / 441) - 1) then
  (some (((a0 - 85) - (a0 - 85) / 441 * 441) - ((a0 - 85) - (a0 - 85) / 441 * 441) / 21 * 21))
  else
  (some (-1)))))
  else
  (if a1 = 0 then
  (some (((a0 - 85) - (a0 - 85) / 441 * 441) / 21))
  else
  (if a1 = (((a0 - 85) / 441) + 1) then
  (some (((a0 - 85) - (a0 - 85) / 441 * 441) - ((a0 - 85) - (a0 - 85) / 441 * 441) / 21 * 21))
  else
  (some (-1))))))
  else
  (if ((a0 - 1) / 21) = a1 then
  (some ((a0 - 1) - (a0 - 1) / 21 * 21))
  else
  (some (-1))))
  else
  (some (-1))
abbrev rmX2_faultIn : Room := { frames := 0, cells := 0, slots := 0, locals := 0 }
set_option maxRecDepth 100000 in
set_option maxHeartbeats 4000000 in
theorem zX2_faultIn (l : Launch) (D : va_G) (cy : Nat → ClassId) (sa : Nat → Nat) (ws : va_W) (sz : Nat) (a0 : Int32) (a1 : Int32) (res : Int32) (hf : mX2_faultIn a0 a1 = some res) : kMi l yX2_faultIn (wsK yX2_faultIn cX2_faultIn 6 (some .int)) rmX2_faultIn D cy sa (ws) sz [.int a0, .int a1] res (ws) 0 0 := by
  refine kM_of (Qc := fun A => kQi D A res (ws)) (cc := cX2_faultIn) (maxL := 6) (ret := (some .int)) (by decide) (Nat.le_of_ble_eq_true rfl) ?_
  intro p e s m below meth c A hx hb hml hr hts hown hlocks hin hA hP hD hS hE hsz ls hl
  have hown : s.vm.findClass RX2 = some m.cls := hown
  obtain ⟨H, hH0⟩ : ∃ H, H = s.heap := ⟨_, rfl⟩
  obtain ⟨locs, hlocs0⟩ : ∃ locs : List Loc, locs = [] := ⟨_, rfl⟩
  have hP : va_P D vwCl (ws) H := by rw [hH0]; exact hP
  have hS : va_S A s.heap H locs := by rw [hH0, hlocs0]; exact hS
  have hl : lv_has ls 6 [(0, .int a0), (1, .int a1)] := hl
  suffices hgoal : W p l e rmX2_faultIn s m ([.int a0, .int a1] : List Value).toArray below meth c H locs 0 0 (MQ below (kQi D A res (ws)) ([.int a0, .int a1] : List Value).toArray s 0 0 A) (F0 m 0 ls []) by rw [hH0, hlocs0] at hgoal; exact hgoal
  clear hH0 hlocs0
  unfold mX2_faultIn at hf
  refine lv_iload_n hx hb dX2_faultIn_0 rfl (lv_at hl 0 rfl) ?_
  refine lv_iconst (v := 1) hx hb dX2_faultIn_1 (by decide) ?_
  refine lv_icmp_ge (tgt := 7) hx hb dX2_faultIn_2 (by decide) (fun c2 => ?_) (fun c2 => ?_)
  · have hf := o_ip c2 hf
    refine lv_iload_n hx hb dX2_faultIn_7 rfl (lv_at hl 0 rfl) ?_
    refine lv_bipush (v := 85) hx hb dX2_faultIn_8 (by decide) ?_
    refine lv_icmp_ge (tgt := 34) hx hb dX2_faultIn_10 (by decide) (fun c10 => ?_) (fun c10 => ?_)
    · have hf := o_ip c10 hf
      refine lv_iload_n hx hb dX2_faultIn_34 rfl (lv_at hl 0 rfl) ?_
      refine lv_bipush (v := 85) hx hb dX2_faultIn_35 (by decide) ?_
      refine lv_isub hx hb dX2_faultIn_37 ?_
      refine lv_sipush (v := 441) hx hb dX2_faultIn_38 (by decide) ?_
      refine lv_idiv hx hb dX2_faultIn_41 (by decide) ?_
      refine lv_istore_n (lv' := [(2, .int ((a0 - 85) / 441)), (0, .int a0), (1, .int a1)]) hx hb dX2_faultIn_42 rfl hl (by decide) rfl (fun ls hl => ?_)
      refine lv_iload_n hx hb dX2_faultIn_43 rfl (lv_at hl 1 rfl) ?_
      refine lv_bipush (v := 85) hx hb dX2_faultIn_44 (by decide) ?_
      refine lv_isub hx hb dX2_faultIn_46 ?_
      refine lv_sipush (v := 441) hx hb dX2_faultIn_47 (by decide) ?_
      refine lv_irem hx hb dX2_faultIn_50 (by decide) ?_
      refine lv_istore_n (lv' := [(3, .int ((a0 - 85) - (a0 - 85) / 441 * 441)), (2, .int ((a0 - 85) / 441)), (0, .int a0), (1, .int a1)]) hx hb dX2_faultIn_51 rfl hl (by decide) rfl (fun ls hl => ?_)
      refine lv_iload_n hx hb dX2_faultIn_52 rfl (lv_at hl 1 rfl) ?_
      refine lv_iconst (v := 3) hx hb dX2_faultIn_53 (by decide) ?_
      refine lv_icmp_ge (tgt := 61) hx hb dX2_faultIn_54 (by decide) (fun c54 => ?_) (fun c54 => ?_)
      · have hf := o_ip c54 hf
        refine lv_iload_n hx hb dX2_faultIn_61 rfl (lv_at hl 1 rfl) ?_
        refine lv_iconst (v := 5) hx hb dX2_faultIn_62 (by decide) ?_
        refine lv_icmp_ge (tgt := 70) hx hb dX2_faultIn_63 (by decide) (fun c63 => ?_) (fun c63 => ?_)
        · have hf := o_ip c63 hf
          refine lv_iconst (v := 2) hx hb dX2_faultIn_70 (by decide) ?_
          refine lv_istore (lv' := [(4, .int 2), (3, .int ((a0 - 85) - (a0 - 85) / 441 * 441)), (2, .int ((a0 - 85) / 441)), (0, .int a0), (1, .int a1)]) hx hb dX2_faultIn_71 hl (by decide) rfl (fun ls hl => ?_)
          refine lv_iload_n hx hb dX2_faultIn_73 rfl (lv_at hl 2 rfl) ?_
          refine lv_iconst (v := 3) hx hb dX2_faultIn_74 (by decide) ?_
          refine lv_icmp_ge (tgt := 84) hx hb dX2_faultIn_75 (by decide) (fun c75 => ?_) (fun c75 => ?_)
          · have hf := o_ip c75 hf
            refine lv_iload_n hx hb dX2_faultIn_84 rfl (lv_at hl 2 rfl) ?_
            refine lv_iconst (v := 5) hx hb dX2_faultIn_85 (by decide) ?_
            refine lv_icmp_ge (tgt := 95) hx hb dX2_faultIn_86 (by decide) (fun c86 => ?_) (fun c86 => ?_)
            · have hf := o_ip c86 hf
              refine lv_iconst (v := 3) hx hb dX2_faultIn_95 (by decide) ?_
              refine lv_istore (lv' := [(5, .int 3), (4, .int 2), (3, .int ((a0 - 85) - (a0 - 85) / 441 * 441)), (2, .int ((a0 - 85) / 441)), (0, .int a0), (1, .int a1)]) hx hb dX2_faultIn_96 hl (by decide) rfl (fun ls hl => ?_)
              refine lv_iload_n hx hb dX2_faultIn_98 rfl (lv_at hl 5 rfl) ?_
              refine lv_iload hx hb dX2_faultIn_99 (lv_at hl 1 rfl) ?_
              refine lv_icmp_ne (tgt := 109) hx hb dX2_faultIn_101 (by decide) (fun c101 => ?_) (fun c101 => ?_)
              · have hf := o_in c101 hf
                refine lv_iload_n hx hb dX2_faultIn_109 rfl (lv_at hl 5 rfl) ?_
                refine lv_iload hx hb dX2_faultIn_110 (lv_at hl 0 rfl) ?_
                refine lv_icmp_ne (tgt := 122) hx hb dX2_faultIn_112 (by decide) (fun c112 => ?_) (fun c112 => ?_)
                · have hf := o_in c112 hf
                  refine lv_iconst (v := (-1)) hx hb dX2_faultIn_122 (by decide) ?_
                  obtain rfl := o_ret hf
                  exact k_iret hx hb hr hP hD hS (Nat.zero_le _) (Nat.zero_le _) hlocks dX2_faultIn_123
                · have hf := o_ip c112 hf
                  refine lv_iload_n hx hb dX2_faultIn_115 rfl (lv_at hl 2 rfl) ?_
                  refine lv_bipush (v := 21) hx hb dX2_faultIn_116 (by decide) ?_
                  refine lv_irem hx hb dX2_faultIn_118 (by decide) ?_
                  refine lv_goto (tgt := 123) hx hb dX2_faultIn_119 (by decide) ?_
                  obtain rfl := o_ret hf
                  exact k_iret hx hb hr hP hD hS (Nat.zero_le _) (Nat.zero_le _) hlocks dX2_faultIn_123
              · have hf := o_ip c101 hf
                refine lv_iload_n hx hb dX2_faultIn_104 rfl (lv_at hl 2 rfl) ?_
                refine lv_bipush (v := 21) hx hb dX2_faultIn_105 (by decide) ?_
                refine lv_idiv hx hb dX2_faultIn_107 (by decide) ?_
                obtain rfl := o_ret hf
                exact k_iret hx hb hr hP hD hS (Nat.zero_le _) (Nat.zero_le _) hlocks dX2_faultIn_108
            · have hf := o_in c86 hf
              refine lv_iload_n hx hb dX2_faultIn_89 rfl (lv_at hl 2 rfl) ?_
              refine lv_iconst (v := 1) hx hb dX2_faultIn_90 (by decide) ?_
              refine lv_isub hx hb dX2_faultIn_91 ?_
              refine lv_goto (tgt := 96) hx hb dX2_faultIn_92 (by decide) ?_
              refine lv_istore (lv' := [(5, .int (((a0 - 85) / 441) - 1)), (4, .int 2), (3, .int ((a0 - 85) - (a0 - 85) / 441 * 441)), (2, .int ((a0 - 85) / 441)), (0, .int a0), (1, .int a1)]) hx hb dX2_faultIn_96 hl (by decide) rfl (fun ls hl => ?_)
              refine lv_iload_n hx hb dX2_faultIn_98 rfl (lv_at hl 5 rfl) ?_
              refine lv_iload hx hb dX2_faultIn_99 (lv_at hl 1 rfl) ?_
              refine lv_icmp_ne (tgt := 109) hx hb dX2_faultIn_101 (by decide) (fun c101 => ?_) (fun c101 => ?_)
              · have hf := o_in c101 hf
                refine lv_iload_n hx hb dX2_faultIn_109 rfl (lv_at hl 5 rfl) ?_
                refine lv_iload hx hb dX2_faultIn_110 (lv_at hl 0 rfl) ?_
                refine lv_icmp_ne (tgt := 122) hx hb dX2_faultIn_112 (by decide) (fun c112 => ?_) (fun c112 => ?_)
                · have hf := o_in c112 hf
                  refine lv_iconst (v := (-1)) hx hb dX2_faultIn_122 (by decide) ?_
                  obtain rfl := o_ret hf
                  exact k_iret hx hb hr hP hD hS (Nat.zero_le _) (Nat.zero_le _) hlocks dX2_faultIn_123
                · have hf := o_ip c112 hf
                  refine lv_iload_n hx hb dX2_faultIn_115 rfl (lv_at hl 2 rfl) ?_
                  refine lv_bipush (v := 21) hx hb dX2_faultIn_116 (by decide) ?_
                  refine lv_irem hx hb dX2_faultIn_118 (by decide) ?_
                  refine lv_goto (tgt := 123) hx hb dX2_faultIn_119 (by decide) ?_
                  obtain rfl := o_ret hf
                  exact k_iret hx hb hr hP hD hS (Nat.zero_le _) (Nat.zero_le _) hlocks dX2_faultIn_123
              · have hf := o_ip c101 hf
                refine lv_iload_n hx hb dX2_faultIn_104 rfl (lv_at hl 2 rfl) ?_
                refine lv_bipush (v := 21) hx hb dX2_faultIn_105 (by decide) ?_
                refine lv_idiv hx hb dX2_faultIn_107 (by decide) ?_
                obtain rfl := o_ret hf
                exact k_iret hx hb hr hP hD hS (Nat.zero_le _) (Nat.zero_le _) hlocks dX2_faultIn_108
          · have hf := o_in c75 hf
            refine lv_iload_n hx hb dX2_faultIn_78 rfl (lv_at hl 2 rfl) ?_
            refine lv_iconst (v := 1) hx hb dX2_faultIn_79 (by decide) ?_
            refine lv_iadd hx hb dX2_faultIn_80 ?_
            refine lv_goto (tgt := 96) hx hb dX2_faultIn_81 (by decide) ?_
            refine lv_istore (lv' := [(5, .int (((a0 - 85) / 441) + 1)), (4, .int 2), (3, .int ((a0 - 85) - (a0 - 85) / 441 * 441)), (2, .int ((a0 - 85) / 441)), (0, .int a0), (1, .int a1)]) hx hb dX2_faultIn_96 hl (by decide) rfl (fun ls hl => ?_)
            refine lv_iload_n hx hb dX2_faultIn_98 rfl (lv_at hl 5 rfl) ?_
            refine lv_iload hx hb dX2_faultIn_99 (lv_at hl 1 rfl) ?_
            refine lv_icmp_ne (tgt := 109) hx hb dX2_faultIn_101 (by decide) (fun c101 => ?_) (fun c101 => ?_)
            · have hf := o_in c101 hf
              refine lv_iload_n hx hb dX2_faultIn_109 rfl (lv_at hl 5 rfl) ?_
              refine lv_iload hx hb dX2_faultIn_110 (lv_at hl 0 rfl) ?_
              refine lv_icmp_ne (tgt := 122) hx hb dX2_faultIn_112 (by decide) (fun c112 => ?_) (fun c112 => ?_)
              · have hf := o_in c112 hf
                refine lv_iconst (v := (-1)) hx hb dX2_faultIn_122 (by decide) ?_
                obtain rfl := o_ret hf
                exact k_iret hx hb hr hP hD hS (Nat.zero_le _) (Nat.zero_le _) hlocks dX2_faultIn_123
              · have hf := o_ip c112 hf
                refine lv_iload_n hx hb dX2_faultIn_115 rfl (lv_at hl 2 rfl) ?_
                refine lv_bipush (v := 21) hx hb dX2_faultIn_116 (by decide) ?_
                refine lv_irem hx hb dX2_faultIn_118 (by decide) ?_
                refine lv_goto (tgt := 123) hx hb dX2_faultIn_119 (by decide) ?_
                obtain rfl := o_ret hf
                exact k_iret hx hb hr hP hD hS (Nat.zero_le _) (Nat.zero_le _) hlocks dX2_faultIn_123
            · have hf := o_ip c101 hf
              refine lv_iload_n hx hb dX2_faultIn_104 rfl (lv_at hl 2 rfl) ?_
              refine lv_bipush (v := 21) hx hb dX2_faultIn_105 (by decide) ?_
              refine lv_idiv hx hb dX2_faultIn_107 (by decide) ?_
              obtain rfl := o_ret hf
              exact k_iret hx hb hr hP hD hS (Nat.zero_le _) (Nat.zero_le _) hlocks dX2_faultIn_108
        · have hf := o_in c63 hf
          refine lv_iconst (v := 1) hx hb dX2_faultIn_66 (by decide) ?_
          refine lv_goto (tgt := 71) hx hb dX2_faultIn_67 (by decide) ?_
          refine lv_istore (lv' := [(4, .int 1), (3, .int ((a0 - 85) - (a0 - 85) / 441 * 441)), (2, .int ((a0 - 85) / 441)), (0, .int a0), (1, .int a1)]) hx hb dX2_faultIn_71 hl (by decide) rfl (fun ls hl => ?_)
          refine lv_iload_n hx hb dX2_faultIn_73 rfl (lv_at hl 2 rfl) ?_
          refine lv_iconst (v := 3) hx hb dX2_faultIn_74 (by decide) ?_
          refine lv_icmp_ge (tgt := 84) hx hb dX2_faultIn_75 (by decide) (fun c75 => ?_) (fun c75 => ?_)
          · have hf := o_ip c75 hf
            refine lv_iload_n hx hb dX2_faultIn_84 rfl (lv_at hl 2 rfl) ?_
            refine lv_iconst (v := 5) hx hb dX2_faultIn_85 (by decide) ?_
            refine lv_icmp_ge (tgt := 95) hx hb dX2_faultIn_86 (by decide) (fun c86 => ?_) (fun c86 => ?_)
            · have hf := o_ip c86 hf
              refine lv_iconst (v := 3) hx hb dX2_faultIn_95 (by decide) ?_
              refine lv_istore (lv' := [(5, .int 3), (4, .int 1), (3, .int ((a0 - 85) - (a0 - 85) / 441 * 441)), (2, .int ((a0 - 85) / 441)), (0, .int a0), (1, .int a1)]) hx hb dX2_faultIn_96 hl (by decide) rfl (fun ls hl => ?_)
              refine lv_iload_n hx hb dX2_faultIn_98 rfl (lv_at hl 5 rfl) ?_
              refine lv_iload hx hb dX2_faultIn_99 (lv_at hl 1 rfl) ?_
              refine lv_icmp_ne (tgt := 109) hx hb dX2_faultIn_101 (by decide) (fun c101 => ?_) (fun c101 => ?_)
              · have hf := o_in c101 hf
                refine lv_iload_n hx hb dX2_faultIn_109 rfl (lv_at hl 5 rfl) ?_
                refine lv_iload hx hb dX2_faultIn_110 (lv_at hl 0 rfl) ?_
                refine lv_icmp_ne (tgt := 122) hx hb dX2_faultIn_112 (by decide) (fun c112 => ?_) (fun c112 => ?_)
                · have hf := o_in c112 hf
                  refine lv_iconst (v := (-1)) hx hb dX2_faultIn_122 (by decide) ?_
                  obtain rfl := o_ret hf
                  exact k_iret hx hb hr hP hD hS (Nat.zero_le _) (Nat.zero_le _) hlocks dX2_faultIn_123
                · have hf := o_ip c112 hf
                  refine lv_iload_n hx hb dX2_faultIn_115 rfl (lv_at hl 2 rfl) ?_
                  refine lv_bipush (v := 21) hx hb dX2_faultIn_116 (by decide) ?_
                  refine lv_irem hx hb dX2_faultIn_118 (by decide) ?_
                  refine lv_goto (tgt := 123) hx hb dX2_faultIn_119 (by decide) ?_
                  obtain rfl := o_ret hf
                  exact k_iret hx hb hr hP hD hS (Nat.zero_le _) (Nat.zero_le _) hlocks dX2_faultIn_123
              · have hf := o_ip c101 hf
                refine lv_iload_n hx hb dX2_faultIn_104 rfl (lv_at hl 2 rfl) ?_
                refine lv_bipush (v := 21) hx hb dX2_faultIn_105 (by decide) ?_
                refine lv_idiv hx hb dX2_faultIn_107 (by decide) ?_
                obtain rfl := o_ret hf
                exact k_iret hx hb hr hP hD hS (Nat.zero_le _) (Nat.zero_le _) hlocks dX2_faultIn_108
            · have hf := o_in c86 hf
              refine lv_iload_n hx hb dX2_faultIn_89 rfl (lv_at hl 2 rfl) ?_
              refine lv_iconst (v := 1) hx hb dX2_faultIn_90 (by decide) ?_
              refine lv_isub hx hb dX2_faultIn_91 ?_
              refine lv_goto (tgt := 96) hx hb dX2_faultIn_92 (by decide) ?_
              refine lv_istore (lv' := [(5, .int (((a0 - 85) / 441) - 1)), (4, .int 1), (3, .int ((a0 - 85) - (a0 - 85) / 441 * 441)), (2, .int ((a0 - 85) / 441)), (0, .int a0), (1, .int a1)]) hx hb dX2_faultIn_96 hl (by decide) rfl (fun ls hl => ?_)
              refine lv_iload_n hx hb dX2_faultIn_98 rfl (lv_at hl 5 rfl) ?_
              refine lv_iload hx hb dX2_faultIn_99 (lv_at hl 1 rfl) ?_
              refine lv_icmp_ne (tgt := 109) hx hb dX2_faultIn_101 (by decide) (fun c101 => ?_) (fun c101 => ?_)
              · have hf := o_in c101 hf
                refine lv_iload_n hx hb dX2_faultIn_109 rfl (lv_at hl 5 rfl) ?_
                refine lv_iload hx hb dX2_faultIn_110 (lv_at hl 0 rfl) ?_
                refine lv_icmp_ne (tgt := 122) hx hb dX2_faultIn_112 (by decide) (fun c112 => ?_) (fun c112 => ?_)
                · have hf := o_in c112 hf
                  refine lv_iconst (v := (-1)) hx hb dX2_faultIn_122 (by decide) ?_
                  obtain rfl := o_ret hf
                  exact k_iret hx hb hr hP hD hS (Nat.zero_le _) (Nat.zero_le _) hlocks dX2_faultIn_123
                · have hf := o_ip c112 hf
                  refine lv_iload_n hx hb dX2_faultIn_115 rfl (lv_at hl 2 rfl) ?_
                  refine lv_bipush (v := 21) hx hb dX2_faultIn_116 (by decide) ?_
                  refine lv_irem hx hb dX2_faultIn_118 (by decide) ?_
                  refine lv_goto (tgt := 123) hx hb dX2_faultIn_119 (by decide) ?_
                  obtain rfl := o_ret hf
                  exact k_iret hx hb hr hP hD hS (Nat.zero_le _) (Nat.zero_le _) hlocks dX2_faultIn_123
              · have hf := o_ip c101 hf
                refine lv_iload_n hx hb dX2_faultIn_104 rfl (lv_at hl 2 rfl) ?_
                refine lv_bipush (v := 21) hx hb dX2_faultIn_105 (by decide) ?_
                refine lv_idiv hx hb dX2_faultIn_107 (by decide) ?_
                obtain rfl := o_ret hf
                exact k_iret hx hb hr hP hD hS (Nat.zero_le _) (Nat.zero_le _) hlocks dX2_faultIn_108
          · have hf := o_in c75 hf
            refine lv_iload_n hx hb dX2_faultIn_78 rfl (lv_at hl 2 rfl) ?_
            refine lv_iconst (v := 1) hx hb dX2_faultIn_79 (by decide) ?_
            refine lv_iadd hx hb dX2_faultIn_80 ?_
            refine lv_goto (tgt := 96) hx hb dX2_faultIn_81 (by decide) ?_
            refine lv_istore (lv' := [(5, .int (((a0 - 85) / 441) + 1)), (4, .int 1), (3, .int ((a0 - 85) - (a0 - 85) / 441 * 441)), (2, .int ((a0 - 85) / 441)), (0, .int a0), (1, .int a1)]) hx hb dX2_faultIn_96 hl (by decide) rfl (fun ls hl => ?_)
            refine lv_iload_n hx hb dX2_faultIn_98 rfl (lv_at hl 5 rfl) ?_
            refine lv_iload hx hb dX2_faultIn_99 (lv_at hl 1 rfl) ?_
            refine lv_icmp_ne (tgt := 109) hx hb dX2_faultIn_101 (by decide) (fun c101 => ?_) (fun c101 => ?_)
            · have hf := o_in c101 hf
              refine lv_iload_n hx hb dX2_faultIn_109 rfl (lv_at hl 5 rfl) ?_
              refine lv_iload hx hb dX2_faultIn_110 (lv_at hl 0 rfl) ?_
              refine lv_icmp_ne (tgt := 122) hx hb dX2_faultIn_112 (by decide) (fun c112 => ?_) (fun c112 => ?_)
              · have hf := o_in c112 hf
                refine lv_iconst (v := (-1)) hx hb dX2_faultIn_122 (by decide) ?_
                obtain rfl := o_ret hf
                exact k_iret hx hb hr hP hD hS (Nat.zero_le _) (Nat.zero_le _) hlocks dX2_faultIn_123
              · have hf := o_ip c112 hf
                refine lv_iload_n hx hb dX2_faultIn_115 rfl (lv_at hl 2 rfl) ?_
                refine lv_bipush (v := 21) hx hb dX2_faultIn_116 (by decide) ?_
                refine lv_irem hx hb dX2_faultIn_118 (by decide) ?_
                refine lv_goto (tgt := 123) hx hb dX2_faultIn_119 (by decide) ?_
                obtain rfl := o_ret hf
                exact k_iret hx hb hr hP hD hS (Nat.zero_le _) (Nat.zero_le _) hlocks dX2_faultIn_123
            · have hf := o_ip c101 hf
              refine lv_iload_n hx hb dX2_faultIn_104 rfl (lv_at hl 2 rfl) ?_
              refine lv_bipush (v := 21) hx hb dX2_faultIn_105 (by decide) ?_
              refine lv_idiv hx hb dX2_faultIn_107 (by decide) ?_
              obtain rfl := o_ret hf
              exact k_iret hx hb hr hP hD hS (Nat.zero_le _) (Nat.zero_le _) hlocks dX2_faultIn_108
      · have hf := o_in c54 hf
        refine lv_iconst (v := 0) hx hb dX2_faultIn_57 (by decide) ?_
        refine lv_goto (tgt := 71) hx hb dX2_faultIn_58 (by decide) ?_
        refine lv_istore (lv' := [(4, .int 0), (3, .int ((a0 - 85) - (a0 - 85) / 441 * 441)), (2, .int ((a0 - 85) / 441)), (0, .int a0), (1, .int a1)]) hx hb dX2_faultIn_71 hl (by decide) rfl (fun ls hl => ?_)
        refine lv_iload_n hx hb dX2_faultIn_73 rfl (lv_at hl 2 rfl) ?_
        refine lv_iconst (v := 3) hx hb dX2_faultIn_74 (by decide) ?_
        refine lv_icmp_ge (tgt := 84) hx hb dX2_faultIn_75 (by decide) (fun c75 => ?_) (fun c75 => ?_)
        · have hf := o_ip c75 hf
          refine lv_iload_n hx hb dX2_faultIn_84 rfl (lv_at hl 2 rfl) ?_
          refine lv_iconst (v := 5) hx hb dX2_faultIn_85 (by decide) ?_
          refine lv_icmp_ge (tgt := 95) hx hb dX2_faultIn_86 (by decide) (fun c86 => ?_) (fun c86 => ?_)
          · have hf := o_ip c86 hf
            refine lv_iconst (v := 3) hx hb dX2_faultIn_95 (by decide) ?_
            refine lv_istore (lv' := [(5, .int 3), (4, .int 0), (3, .int ((a0 - 85) - (a0 - 85) / 441 * 441)), (2, .int ((a0 - 85) / 441)), (0, .int a0), (1, .int a1)]) hx hb dX2_faultIn_96 hl (by decide) rfl (fun ls hl => ?_)
            refine lv_iload_n hx hb dX2_faultIn_98 rfl (lv_at hl 5 rfl) ?_
            refine lv_iload hx hb dX2_faultIn_99 (lv_at hl 1 rfl) ?_
            refine lv_icmp_ne (tgt := 109) hx hb dX2_faultIn_101 (by decide) (fun c101 => ?_) (fun c101 => ?_)
            · have hf := o_in c101 hf
              refine lv_iload_n hx hb dX2_faultIn_109 rfl (lv_at hl 5 rfl) ?_
              refine lv_iload hx hb dX2_faultIn_110 (lv_at hl 0 rfl) ?_
              refine lv_icmp_ne (tgt := 122) hx hb dX2_faultIn_112 (by decide) (fun c112 => ?_) (fun c112 => ?_)
              · have hf := o_in c112 hf
                refine lv_iconst (v := (-1)) hx hb dX2_faultIn_122 (by decide) ?_
                obtain rfl := o_ret hf
                exact k_iret hx hb hr hP hD hS (Nat.zero_le _) (Nat.zero_le _) hlocks dX2_faultIn_123
              · have hf := o_ip c112 hf
                refine lv_iload_n hx hb dX2_faultIn_115 rfl (lv_at hl 2 rfl) ?_
                refine lv_bipush (v := 21) hx hb dX2_faultIn_116 (by decide) ?_
                refine lv_irem hx hb dX2_faultIn_118 (by decide) ?_
                refine lv_goto (tgt := 123) hx hb dX2_faultIn_119 (by decide) ?_
                obtain rfl := o_ret hf
                exact k_iret hx hb hr hP hD hS (Nat.zero_le _) (Nat.zero_le _) hlocks dX2_faultIn_123
            · have hf := o_ip c101 hf
              refine lv_iload_n hx hb dX2_faultIn_104 rfl (lv_at hl 2 rfl) ?_
              refine lv_bipush (v := 21) hx hb dX2_faultIn_105 (by decide) ?_
              refine lv_idiv hx hb dX2_faultIn_107 (by decide) ?_
              obtain rfl := o_ret hf
              exact k_iret hx hb hr hP hD hS (Nat.zero_le _) (Nat.zero_le _) hlocks dX2_faultIn_108
          · have hf := o_in c86 hf
            refine lv_iload_n hx hb dX2_faultIn_89 rfl (lv_at hl 2 rfl) ?_
            refine lv_iconst (v := 1) hx hb dX2_faultIn_90 (by decide) ?_
            refine lv_isub hx hb dX2_faultIn_91 ?_
            refine lv_goto (tgt := 96) hx hb dX2_faultIn_92 (by decide) ?_
            refine lv_istore (lv' := [(5, .int (((a0 - 85) / 441) - 1)), (4, .int 0), (3, .int ((a0 - 85) - (a0 - 85) / 441 * 441)), (2, .int ((a0 - 85) / 441)), (0, .int a0), (1, .int a1)]) hx hb dX2_faultIn_96 hl (by decide) rfl (fun ls hl => ?_)
            refine lv_iload_n hx hb dX2_faultIn_98 rfl (lv_at hl 5 rfl) ?_
            refine lv_iload hx hb dX2_faultIn_99 (lv_at hl 1 rfl) ?_
            refine lv_icmp_ne (tgt := 109) hx hb dX2_faultIn_101 (by decide) (fun c101 => ?_) (fun c101 => ?_)
            · have hf := o_in c101 hf
              refine lv_iload_n hx hb dX2_faultIn_109 rfl (lv_at hl 5 rfl) ?_
              refine lv_iload hx hb dX2_faultIn_110 (lv_at hl 0 rfl) ?_
              refine lv_icmp_ne (tgt := 122) hx hb dX2_faultIn_112 (by decide) (fun c112 => ?_) (fun c112 => ?_)
              · have hf := o_in c112 hf
                refine lv_iconst (v := (-1)) hx hb dX2_faultIn_122 (by decide) ?_
                obtain rfl := o_ret hf
                exact k_iret hx hb hr hP hD hS (Nat.zero_le _) (Nat.zero_le _) hlocks dX2_faultIn_123
              · have hf := o_ip c112 hf
                refine lv_iload_n hx hb dX2_faultIn_115 rfl (lv_at hl 2 rfl) ?_
                refine lv_bipush (v := 21) hx hb dX2_faultIn_116 (by decide) ?_
                refine lv_irem hx hb dX2_faultIn_118 (by decide) ?_
                refine lv_goto (tgt := 123) hx hb dX2_faultIn_119 (by decide) ?_
                obtain rfl := o_ret hf
                exact k_iret hx hb hr hP hD hS (Nat.zero_le _) (Nat.zero_le _) hlocks dX2_faultIn_123
            · have hf := o_ip c101 hf
              refine lv_iload_n hx hb dX2_faultIn_104 rfl (lv_at hl 2 rfl) ?_
              refine lv_bipush (v := 21) hx hb dX2_faultIn_105 (by decide) ?_
              refine lv_idiv hx hb dX2_faultIn_107 (by decide) ?_
              obtain rfl := o_ret hf
              exact k_iret hx hb hr hP hD hS (Nat.zero_le _) (Nat.zero_le _) hlocks dX2_faultIn_108
        · have hf := o_in c75 hf
          refine lv_iload_n hx hb dX2_faultIn_78 rfl (lv_at hl 2 rfl) ?_
          refine lv_iconst (v := 1) hx hb dX2_faultIn_79 (by decide) ?_
          refine lv_iadd hx hb dX2_faultIn_80 ?_
          refine lv_goto (tgt := 96) hx hb dX2_faultIn_81 (by decide) ?_
          refine lv_istore (lv' := [(5, .int (((a0 - 85) / 441) + 1)), (4, .int 0), (3, .int ((a0 - 85) - (a0 - 85) / 441 * 441)), (2, .int ((a0 - 85) / 441)), (0, .int a0), (1, .int a1)]) hx hb dX2_faultIn_96 hl (by decide) rfl (fun ls hl => ?_)
          refine lv_iload_n hx hb dX2_faultIn_98 rfl (lv_at hl 5 rfl) ?_
          refine lv_iload hx hb dX2_faultIn_99 (lv_at hl 1 rfl) ?_
          refine lv_icmp_ne (tgt := 109) hx hb dX2_faultIn_101 (by decide) (fun c101 => ?_) (fun c101 => ?_)
          · have hf := o_in c101 hf
            refine lv_iload_n hx hb dX2_faultIn_109 rfl (lv_at hl 5 rfl) ?_
            refine lv_iload hx hb dX2_faultIn_110 (lv_at hl 0 rfl) ?_
            refine lv_icmp_ne (tgt := 122) hx hb dX2_faultIn_112 (by decide) (fun c112 => ?_) (fun c112 => ?_)
            · have hf := o_in c112 hf
              refine lv_iconst (v := (-1)) hx hb dX2_faultIn_122 (by decide) ?_
              obtain rfl := o_ret hf
              exact k_iret hx hb hr hP hD hS (Nat.zero_le _) (Nat.zero_le _) hlocks dX2_faultIn_123
            · have hf := o_ip c112 hf
              refine lv_iload_n hx hb dX2_faultIn_115 rfl (lv_at hl 2 rfl) ?_
              refine lv_bipush (v := 21) hx hb dX2_faultIn_116 (by decide) ?_
              refine lv_irem hx hb dX2_faultIn_118 (by decide) ?_
              refine lv_goto (tgt := 123) hx hb dX2_faultIn_119 (by decide) ?_
              obtain rfl := o_ret hf
              exact k_iret hx hb hr hP hD hS (Nat.zero_le _) (Nat.zero_le _) hlocks dX2_faultIn_123
          · have hf := o_ip c101 hf
            refine lv_iload_n hx hb dX2_faultIn_104 rfl (lv_at hl 2 rfl) ?_
            refine lv_bipush (v := 21) hx hb dX2_faultIn_105 (by decide) ?_
            refine lv_idiv hx hb dX2_faultIn_107 (by decide) ?_
            obtain rfl := o_ret hf
            exact k_iret hx hb hr hP hD hS (Nat.zero_le _) (Nat.zero_le _) hlocks dX2_faultIn_108
    · have hf := o_in c10 hf
      refine lv_iload_n hx hb dX2_faultIn_13 rfl (lv_at hl 0 rfl) ?_
      refine lv_iconst (v := 1) hx hb dX2_faultIn_14 (by decide) ?_
      refine lv_isub hx hb dX2_faultIn_15 ?_
      refine lv_bipush (v := 21) hx hb dX2_faultIn_16 (by decide) ?_
      refine lv_idiv hx hb dX2_faultIn_18 (by decide) ?_
      refine lv_iload_n hx hb dX2_faultIn_19 rfl (lv_at hl 1 rfl) ?_
      refine lv_icmp_ne (tgt := 32) hx hb dX2_faultIn_20 (by decide) (fun c20 => ?_) (fun c20 => ?_)
      · have hf := o_in c20 hf
        refine lv_iconst (v := (-1)) hx hb dX2_faultIn_32 (by decide) ?_
        obtain rfl := o_ret hf
        exact k_iret hx hb hr hP hD hS (Nat.zero_le _) (Nat.zero_le _) hlocks dX2_faultIn_33
      · have hf := o_ip c20 hf
        refine lv_iload_n hx hb dX2_faultIn_23 rfl (lv_at hl 0 rfl) ?_
        refine lv_iconst (v := 1) hx hb dX2_faultIn_24 (by decide) ?_
        refine lv_isub hx hb dX2_faultIn_25 ?_
        refine lv_bipush (v := 21) hx hb dX2_faultIn_26 (by decide) ?_
        refine lv_irem hx hb dX2_faultIn_28 (by decide) ?_
        refine lv_goto (tgt := 33) hx hb dX2_faultIn_29 (by decide) ?_
        obtain rfl := o_ret hf
        exact k_iret hx hb hr hP hD hS (Nat.zero_le _) (Nat.zero_le _) hlocks dX2_faultIn_33
  · have hf := o_in c2 hf
    refine lv_iconst (v := (-1)) hx hb dX2_faultIn_5 (by decide) ?_
    obtain rfl := o_ret hf
    exact k_iret hx hb hr hP hD hS (Nat.zero_le _) (Nat.zero_le _) hlocks dX2_faultIn_6
