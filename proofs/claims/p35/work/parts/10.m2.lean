noncomputable def mX2_greatest_s14 (u : KS) (s14 : Int32 × Int64 × Int32) : Option ((Int32) ⊕ (Int32 × Int64 × Int32)) :=
  if 2731 ≤ s14.2.2 then
  (some (.inl s14.1))
  else
  (gd (inb s14.2.2 2731) (if (lg_cmp ((gA u 0) (s14.2.2.toNatClampNeg)) s14.2.1) ≤ 0 then
  (some (.inr (s14.1, s14.2.1, (s14.2.2 + 1))))
  else
  (gd (inb s14.2.2 2731) (some (.inr (s14.2.2, ((gA u 0) (s14.2.2.toNatClampNeg)), (s14.2.2 + 1)))))))
noncomputable def mX2_greatest (u : KS) : Option (Int32) :=
  (mX5_at_ 2731 (gA u 0) 0).bind fun r7 =>
  (lpF (mX2_greatest_s14 u) (0, r7, 1)).bind fun e14 =>
  some e14
abbrev rmX2_greatest : Room := { frames := 1, cells := 0, slots := 0, locals := 21 }
set_option maxRecDepth 100000 in
set_option maxHeartbeats 4000000 in
theorem zX2_greatest (l : Launch) (D : va_G) (cy : Nat → ClassId) (sa : Nat → Nat) (q : Nat → Nat) (rest : va_W) (sz : Nat) (u : KS) (res : Int32) (hf : mX2_greatest u = some res) : kMi l yX2_greatest (wsK yX2_greatest cX2_greatest 5 (some .int)) rmX2_greatest D cy sa (WX q cy u ++ rest) sz [.ref (q 15)] res (WX q cy u ++ rest) 0 0 := by
  refine kM_of (Qc := fun A => kQi D A res (WX q cy u ++ rest)) (cc := cX2_greatest) (maxL := 5) (ret := (some .int)) (by decide) (Nat.le_of_ble_eq_true rfl) ?_
  intro p e s m below meth c A hx hb hml hr hts hown hlocks hin hA hP hD hS hE hsz ls hl
  have hown : s.vm.findClass RX2 = some m.cls := hown
  obtain ⟨H, hH0⟩ : ∃ H, H = s.heap := ⟨_, rfl⟩
  obtain ⟨locs, hlocs0⟩ : ∃ locs : List Loc, locs = [] := ⟨_, rfl⟩
  have hP : va_P D vwCl (WX q cy u ++ rest) H := by rw [hH0]; exact hP
  have hS : va_S A s.heap H locs := by rw [hH0, hlocs0]; exact hS
  have hl : lv_has ls 5 [(0, .ref (q 15))] := hl
  suffices hgoal : W p l e rmX2_greatest s m ([.ref (q 15)] : List Value).toArray below meth c H locs 0 0 (MQ below (kQi D A res (WX q cy u ++ rest)) ([.ref (q 15)] : List Value).toArray s 0 0 A) (F0 m 0 ls []) by rw [hH0, hlocs0] at hgoal; exact hgoal
  clear hH0 hlocs0
  unfold mX2_greatest at hf
  refine lv_iconst (v := 0) hx hb dX2_greatest_0 (by decide) ?_
  refine lv_istore_n (lv' := [(1, .int 0), (0, .ref (q 15))]) hx hb dX2_greatest_1 rfl hl (by decide) rfl (fun ls hl => ?_)
  refine lv_aload_n hx hb dX2_greatest_2 rfl (lv_at hl 1 rfl) ?_
  refine va_get (ci := 2) (v := .ref (q 17)) (C := RX2) (T := TX2) (N := 4) hx hb hts inlX2 hown hE.1 hP 15 rfl rfl 2 (by decide) (hts _ wB60) (fun _ h9 => h9) rfl dX2_greatest_3 ?_
  refine lv_iconst (v := 0) hx hb dX2_greatest_6 (by decide) ?_
  obtain ⟨r7, h7r, hf⟩ := o_bs hf
  refine k_gol (va_runSN (As := [.ref (q 17), .int 0]) (rest := []) ⟨hx, hb, hml, hown, hts⟩ (zX5_at_ l D cy sa (WX q cy u ++ rest) H.size 17 (q 17) 2731 (gA u 0) 0 r7 rfl h7r) ⟨va_cnB 2 hts (gB_K wB414) rfl rfl rfl (hE.2.1.1 _ (List.mem_of_getElem? (i := 10) rfl)) (hts _ wB2) (by decide +kernel) ⟨Nat.le_of_ble_eq_true rfl, Nat.le_of_ble_eq_true rfl⟩, hts _ wB413, trivial⟩ ⟨kP.blind, k_pre hP hD hS hE hA⟩ rfl rfl hl.1 rfl (lv_room (Nat.le_of_ble_eq_true rfl)) dX2_greatest_7 ⟨Nat.zero_le _, Nat.zero_le _⟩) hD hS hA (fun H locs hP hD hS => ?_)
  refine lv_lstore_n (lv' := [(2, .long r7), (1, .int 0), (0, .ref (q 15))]) hx hb dX2_greatest_10 rfl hl (by decide) rfl (fun ls hl => ?_)
  refine lv_iconst (v := 1) hx hb dX2_greatest_11 (by decide) ?_
  refine lv_istore (lv' := [(4, .int 1), (2, .long r7), (1, .int 0), (0, .ref (q 15))]) hx hb dX2_greatest_12 hl (by decide) rfl (fun ls hl => ?_)
  have L14 : ∀ (n14v : Nat) (s14 : Int32 × Int64 × Int32) (e14 : Int32), lpO (mX2_greatest_s14 u) n14v s14 = some e14 → ∀ (H : Heap) (locs : List Loc) (ls : Array Slot), va_P D vwCl (WX q cy u ++ rest) H → va_D A (WX q cy u ++ rest) → va_S A s.heap H locs → lv_has ls 5 [(0, .ref (q 15)), (1, .int s14.1), (2, .long s14.2.1), (4, .int s14.2.2)] → (∀ (H : Heap) (locs : List Loc) (ls : Array Slot), va_P D vwCl (WX q cy u ++ rest) H → va_D A (WX q cy u ++ rest) → va_S A s.heap H locs → lv_has ls 5 [(1, .int e14)] → W p l e rmX2_greatest s m ([.ref (q 15)] : List Value).toArray below meth c H locs 0 0 (MQ below (kQi D A res (WX q cy u ++ rest)) ([.ref (q 15)] : List Value).toArray s 0 0 A) (F0 m 53 ls [])) → W p l e rmX2_greatest s m ([.ref (q 15)] : List Value).toArray below meth c H locs 0 0 (MQ below (kQi D A res (WX q cy u ++ rest)) ([.ref (q 15)] : List Value).toArray s 0 0 A) (F0 m 14 ls []) := by
    intro n14v
    induction n14v with
    | zero => intro s14 e14 h; exact (lpO_z h).elim
    | succ n14v ih14 =>
      intro s14 e14 h14z H locs ls hP hD hS hl K14_0
      obtain ⟨x14, hf, h14z⟩ := lpO_s h14z
      unfold mX2_greatest_s14 at hf
      refine lv_iload hx hb dX2_greatest_14 (lv_at hl 3 rfl) ?_
      refine lv_aload_n hx hb dX2_greatest_16 rfl (lv_at hl 0 rfl) ?_
      refine va_get (ci := 2) (v := .ref (q 17)) (C := RX2) (T := TX2) (N := 4) hx hb hts inlX2 hown hE.1 hP 15 rfl rfl 2 (by decide) (hts _ wB60) (fun _ h9 => h9) rfl dX2_greatest_17 ?_
      refine va_alen (v := 2731) hx hb hE.1 hP 17 1 rfl rfl rfl dX2_greatest_20 ?_
      refine lv_icmp_ge (tgt := 53) hx hb dX2_greatest_21 (by decide) (fun c21 => ?_) (fun c21 => ?_)
      · have hf := o_ip c21 hf
        obtain rfl := o_ret hf
        obtain rfl := lpK_l h14z
        exact K14_0 _ _ _ hP hD hS (lv_sub hl [1] rfl)
      · have hf := o_in c21 hf
        refine lv_aload_n hx hb dX2_greatest_24 rfl (lv_at hl 0 rfl) ?_
        refine va_get (ci := 2) (v := .ref (q 17)) (C := RX2) (T := TX2) (N := 4) hx hb hts inlX2 hown hE.1 hP 15 rfl rfl 2 (by decide) (hts _ wB60) (fun _ h9 => h9) rfl dX2_greatest_25 ?_
        refine lv_iload hx hb dX2_greatest_28 (lv_at hl 3 rfl) ?_
        obtain ⟨hg30, hf⟩ := gd_s hf
        refine va_lald (f := (gA u 0)) hx hb hE.1 hP 17 1 rfl rfl hg30 dX2_greatest_30 ?_
        refine lv_lload_n hx hb dX2_greatest_31 rfl (lv_at hl 2 rfl) ?_
        refine W.lcmp hx hb dX2_greatest_32 ?_
        refine lv_if_le (tgt := 47) hx hb dX2_greatest_33 (by decide) (fun c33 => ?_) (fun c33 => ?_)
        · have hf := o_ip c33 hf
          refine lv_iinc (v := (s14.2.2 + 1)) (lv' := [(4, .int (s14.2.2 + 1)), (0, .ref (q 15)), (1, .int s14.1), (2, .long s14.2.1)]) hx hb dX2_greatest_47 hl (k := 3) rfl (by rfl) (by decide) rfl (fun ls hl => ?_)
          refine lv_goto (tgt := 14) hx hb dX2_greatest_50 (by decide) ?_
          obtain rfl := o_ret hf
          exact ih14 _ _ (lpK_r h14z) _ _ _ hP hD hS (lv_sub hl [1, 2, 3, 0] rfl) K14_0
        · have hf := o_in c33 hf
          refine lv_iload hx hb dX2_greatest_36 (lv_at hl 3 rfl) ?_
          refine lv_istore_n (lv' := [(1, .int s14.2.2), (0, .ref (q 15)), (2, .long s14.2.1), (4, .int s14.2.2)]) hx hb dX2_greatest_38 rfl hl (by decide) rfl (fun ls hl => ?_)
          refine lv_aload_n hx hb dX2_greatest_39 rfl (lv_at hl 1 rfl) ?_
          refine va_get (ci := 2) (v := .ref (q 17)) (C := RX2) (T := TX2) (N := 4) hx hb hts inlX2 hown hE.1 hP 15 rfl rfl 2 (by decide) (hts _ wB60) (fun _ h9 => h9) rfl dX2_greatest_40 ?_
          refine lv_iload hx hb dX2_greatest_43 (lv_at hl 3 rfl) ?_
          obtain ⟨hg45, hf⟩ := gd_s hf
          refine va_lald (f := (gA u 0)) hx hb hE.1 hP 17 1 rfl rfl hg45 dX2_greatest_45 ?_
          refine lv_lstore_n (lv' := [(2, .long ((gA u 0) (s14.2.2.toNatClampNeg))), (1, .int s14.2.2), (0, .ref (q 15)), (4, .int s14.2.2)]) hx hb dX2_greatest_46 rfl hl (by decide) rfl (fun ls hl => ?_)
          refine lv_iinc (v := (s14.2.2 + 1)) (lv' := [(4, .int (s14.2.2 + 1)), (2, .long ((gA u 0) (s14.2.2.toNatClampNeg))), (1, .int s14.2.2), (0, .ref (q 15))]) hx hb dX2_greatest_47 hl (k := 3) rfl (by rfl) (by decide) rfl (fun ls hl => ?_)
          refine lv_goto (tgt := 14) hx hb dX2_greatest_50 (by decide) ?_
          obtain rfl := o_ret hf
          exact ih14 _ _ (lpK_r h14z) _ _ _ hP hD hS (lv_sub hl [3, 2, 1, 0] rfl) K14_0
  obtain ⟨e14, h14q, hf⟩ := o_bs hf
  obtain ⟨n14v, h14q⟩ := lpF_ex h14q
  refine L14 n14v _ e14 h14q _ _ _ hP hD hS (lv_sub hl [3, 2, 1, 0] rfl) ?_
  intro H locs ls hP hD hS hl
  refine lv_iload_n hx hb dX2_greatest_53 rfl (lv_at hl 0 rfl) ?_
  obtain rfl := o_ret hf
  exact k_iret hx hb hr hP hD hS (Nat.zero_le _) (Nat.zero_le _) hlocks dX2_greatest_54
noncomputable def mX2_levelOf (a0 : Int32) (a1 : Int32) : Option (Int32) :=
  if a0 = 0 then
  (some 0)
  else
  (if a1 < a0 then
  (some 2)
  else
  (some 1))
abbrev rmX2_levelOf : Room := { frames := 0, cells := 0, slots := 0, locals := 0 }
set_option maxRecDepth 100000 in
set_option maxHeartbeats 4000000 in
theorem zX2_levelOf (l : Launch) (D : va_G) (cy : Nat → ClassId) (sa : Nat → Nat) (ws : va_W) (sz : Nat) (a0 : Int32) (a1 : Int32) (res : Int32) (hf : mX2_levelOf a0 a1 = some res) : kMi l yX2_levelOf (wsK yX2_levelOf cX2_levelOf 2 (some .int)) rmX2_levelOf D cy sa (ws) sz [.int a0, .int a1] res (ws) 0 0 := by
  refine kM_of (Qc := fun A => kQi D A res (ws)) (cc := cX2_levelOf) (maxL := 2) (ret := (some .int)) (by decide) (Nat.le_of_ble_eq_true rfl) ?_
  intro p e s m below meth c A hx hb hml hr hts hown hlocks hin hA hP hD hS hE hsz ls hl
  have hown : s.vm.findClass RX2 = some m.cls := hown
  obtain ⟨H, hH0⟩ : ∃ H, H = s.heap := ⟨_, rfl⟩
  obtain ⟨locs, hlocs0⟩ : ∃ locs : List Loc, locs = [] := ⟨_, rfl⟩
  have hP : va_P D vwCl (ws) H := by rw [hH0]; exact hP
  have hS : va_S A s.heap H locs := by rw [hH0, hlocs0]; exact hS
  have hl : lv_has ls 2 [(0, .int a0), (1, .int a1)] := hl
  suffices hgoal : W p l e rmX2_levelOf s m ([.int a0, .int a1] : List Value).toArray below meth c H locs 0 0 (MQ below (kQi D A res (ws)) ([.int a0, .int a1] : List Value).toArray s 0 0 A) (F0 m 0 ls []) by rw [hH0, hlocs0] at hgoal; exact hgoal
  clear hH0 hlocs0
  unfold mX2_levelOf at hf
  refine lv_iload_n hx hb dX2_levelOf_0 rfl (lv_at hl 0 rfl) ?_
  refine lv_if_ne (tgt := 6) hx hb dX2_levelOf_1 (by decide) (fun c1 => ?_) (fun c1 => ?_)
  · have hf := o_in c1 hf
    refine lv_iload_n hx hb dX2_levelOf_6 rfl (lv_at hl 0 rfl) ?_
    refine lv_iload_n hx hb dX2_levelOf_7 rfl (lv_at hl 1 rfl) ?_
    refine lv_icmp_gt (tgt := 15) hx hb dX2_levelOf_8 (by decide) (fun c8 => ?_) (fun c8 => ?_)
    · have hf := o_ip c8 hf
      refine lv_iconst (v := 2) hx hb dX2_levelOf_15 (by decide) ?_
      obtain rfl := o_ret hf
      exact k_iret hx hb hr hP hD hS (Nat.zero_le _) (Nat.zero_le _) hlocks dX2_levelOf_16
    · have hf := o_in c8 hf
      refine lv_iconst (v := 1) hx hb dX2_levelOf_11 (by decide) ?_
      refine lv_goto (tgt := 16) hx hb dX2_levelOf_12 (by decide) ?_
      obtain rfl := o_ret hf
      exact k_iret hx hb hr hP hD hS (Nat.zero_le _) (Nat.zero_le _) hlocks dX2_levelOf_16
  · have hf := o_ip c1 hf
    refine lv_iconst (v := 0) hx hb dX2_levelOf_4 (by decide) ?_
    obtain rfl := o_ret hf
    exact k_iret hx hb hr hP hD hS (Nat.zero_le _) (Nat.zero_le _) hlocks dX2_levelOf_5
noncomputable def mX2_greatestLevel_s8 (u : KS) (c1 : Int32) (s8 : Int64 × Int64 × Int32) : Option (((Int64 × Int64)) ⊕ (Int64 × Int64 × Int32)) :=
  if 2731 ≤ s8.2.2 then
  (some (.inl (s8.1, s8.2.1)))
  else
  ((mX5_at 2731 (gR u 12) s8.2.2).bind fun r24 =>
  (mX2_levelOf r24 c1).bind fun r28 =>
  if r28 = 0 then
  (gd (inb s8.2.2 2731) (some (.inr ((s8.1 + ((gA u 0) (s8.2.2.toNatClampNeg))), s8.2.1, (s8.2.2 + 1)))))
  else
  (if r28 = 1 then
  (gd (inb s8.2.2 2731) (some (.inr (s8.1, (s8.2.1 + ((gA u 0) (s8.2.2.toNatClampNeg))), (s8.2.2 + 1)))))
  else
  (some (.inr (s8.1, s8.2.1, (s8.2.2 + 1))))))
noncomputable def mX2_greatestLevel (u : KS) (a1 : Int32) : Option (Int64) :=
  (lpF (mX2_greatestLevel_s8 u a1) (0, 0, 0)).bind fun e8 =>
  some (if (((gL u 0) - e8.1) - e8.2) < (if e8.2 < e8.1 then e8.1 else e8.2) then (if e8.2 < e8.1 then e8.1 else e8.2) else (((gL u 0) - e8.1) - e8.2))
abbrev rmX2_greatestLevel : Room := { frames := 1, cells := 0, slots := 0, locals := 31 }
set_option maxRecDepth 100000 in
set_option maxHeartbeats 4000000 in
theorem zX2_greatestLevel (l : Launch) (D : va_G) (cy : Nat → ClassId) (sa : Nat → Nat) (q : Nat → Nat) (rest : va_W) (sz : Nat) (u : KS) (a1 : Int32) (res : Int64) (hf : mX2_greatestLevel u a1 = some res) : kMl l yX2_greatestLevel (wsK yX2_greatestLevel cX2_greatestLevel 8 (some .long)) rmX2_greatestLevel D cy sa (WX q cy u ++ rest) sz [.ref (q 15), .int a1] res (WX q cy u ++ rest) 0 0 := by
  refine kM_of (Qc := fun A => kQl D A res (WX q cy u ++ rest)) (cc := cX2_greatestLevel) (maxL := 8) (ret := (some .long)) (by decide) (Nat.le_of_ble_eq_true rfl) ?_
  intro p e s m below meth c A hx hb hml hr hts hown hlocks hin hA hP hD hS hE hsz ls hl
  have hown : s.vm.findClass RX2 = some m.cls := hown
  obtain ⟨H, hH0⟩ : ∃ H, H = s.heap := ⟨_, rfl⟩
  obtain ⟨locs, hlocs0⟩ : ∃ locs : List Loc, locs = [] := ⟨_, rfl⟩
  have hP : va_P D vwCl (WX q cy u ++ rest) H := by rw [hH0]; exact hP
  have hS : va_S A s.heap H locs := by rw [hH0, hlocs0]; exact hS
  have hl : lv_has ls 8 [(0, .ref (q 15)), (1, .int a1)] := hl
  suffices hgoal : W p l e rmX2_greatestLevel s m ([.ref (q 15), .int a1] : List Value).toArray below meth c H locs 0 0 (MQ below (kQl D A res (WX q cy u ++ rest)) ([.ref (q 15), .int a1] : List Value).toArray s 0 0 A) (F0 m 0 ls []) by rw [hH0, hlocs0] at hgoal; exact hgoal
  clear hH0 hlocs0
  unfold mX2_greatestLevel at hf
  refine lv_lconst (v := 0) hx hb dX2_greatestLevel_0 (by decide) ?_
  refine lv_lstore_n (lv' := [(2, .long 0), (0, .ref (q 15)), (1, .int a1)]) hx hb dX2_greatestLevel_1 rfl hl (by decide) rfl (fun ls hl => ?_)
  refine lv_lconst (v := 0) hx hb dX2_greatestLevel_2 (by decide) ?_
  refine lv_lstore (lv' := [(4, .long 0), (2, .long 0), (0, .ref (q 15)), (1, .int a1)]) hx hb dX2_greatestLevel_3 hl (by decide) rfl (fun ls hl => ?_)
  refine lv_iconst (v := 0) hx hb dX2_greatestLevel_5 (by decide) ?_
  refine lv_istore (lv' := [(6, .int 0), (4, .long 0), (2, .long 0), (0, .ref (q 15)), (1, .int a1)]) hx hb dX2_greatestLevel_6 hl (by decide) rfl (fun ls hl => ?_)
  have L8 : ∀ (n8v : Nat) (s8 : Int64 × Int64 × Int32) (e8 : (Int64 × Int64)), lpO (mX2_greatestLevel_s8 u a1) n8v s8 = some e8 → ∀ (H : Heap) (locs : List Loc) (ls : Array Slot), va_P D vwCl (WX q cy u ++ rest) H → va_D A (WX q cy u ++ rest) → va_S A s.heap H locs → lv_has ls 8 [(0, .ref (q 15)), (1, .int a1), (2, .long s8.1), (4, .long s8.2.1), (6, .int s8.2.2)] → (∀ (H : Heap) (locs : List Loc) (ls : Array Slot), va_P D vwCl (WX q cy u ++ rest) H → va_D A (WX q cy u ++ rest) → va_S A s.heap H locs → lv_has ls 8 [(0, .ref (q 15)), (2, .long e8.1), (4, .long e8.2)] → W p l e rmX2_greatestLevel s m ([.ref (q 15), .int a1] : List Value).toArray below meth c H locs 0 0 (MQ below (kQl D A res (WX q cy u ++ rest)) ([.ref (q 15), .int a1] : List Value).toArray s 0 0 A) (F0 m 75 ls [])) → W p l e rmX2_greatestLevel s m ([.ref (q 15), .int a1] : List Value).toArray below meth c H locs 0 0 (MQ below (kQl D A res (WX q cy u ++ rest)) ([.ref (q 15), .int a1] : List Value).toArray s 0 0 A) (F0 m 8 ls []) := by
    intro n8v
    induction n8v with
    | zero => intro s8 e8 h; exact (lpO_z h).elim
    | succ n8v ih8 =>
      intro s8 e8 h8z H locs ls hP hD hS hl K8_0
      obtain ⟨x8, hf, h8z⟩ := lpO_s h8z
      unfold mX2_greatestLevel_s8 at hf
      refine lv_iload hx hb dX2_greatestLevel_8 (lv_at hl 4 rfl) ?_
      refine lv_aload_n hx hb dX2_greatestLevel_10 rfl (lv_at hl 0 rfl) ?_
      refine va_get (ci := 2) (v := .ref (q 17)) (C := RX2) (T := TX2) (N := 4) hx hb hts inlX2 hown hE.1 hP 15 rfl rfl 2 (by decide) (hts _ wB60) (fun _ h9 => h9) rfl dX2_greatestLevel_11 ?_
      refine va_alen (v := 2731) hx hb hE.1 hP 17 1 rfl rfl rfl dX2_greatestLevel_14 ?_
      refine lv_icmp_ge (tgt := 75) hx hb dX2_greatestLevel_15 (by decide) (fun c15 => ?_) (fun c15 => ?_)
      · have hf := o_ip c15 hf
        obtain rfl := o_ret hf
        obtain rfl := lpK_l h8z
        exact K8_0 _ _ _ hP hD hS (lv_sub hl [0, 2, 3] rfl)
      · have hf := o_in c15 hf
        refine lv_aload_n hx hb dX2_greatestLevel_18 rfl (lv_at hl 0 rfl) ?_
        refine va_get (ci := 2) (v := .ref (q 18)) (C := RX2) (T := TX2) (N := 4) hx hb hts inlX2 hown hE.1 hP 15 rfl rfl 3 (by decide) (hts _ wB61) (fun _ h9 => h9) rfl dX2_greatestLevel_19 ?_
        refine lv_iload hx hb dX2_greatestLevel_22 (lv_at hl 4 rfl) ?_
        obtain ⟨r24, h24r, hf⟩ := o_bs hf
        refine k_goi (va_runSN (As := [.ref (q 18), .int s8.2.2]) (rest := []) ⟨hx, hb, hml, hown, hts⟩ (zX5_at l D cy sa (WX q cy u ++ rest) H.size 18 (q 18) 2731 (gR u 12) s8.2.2 r24 rfl h24r) ⟨va_cnB 2 hts (gB_K wB112) rfl rfl rfl (hE.2.1.1 _ (List.mem_of_getElem? (i := 8) rfl)) (hts _ wB2) (by decide +kernel) ⟨Nat.le_of_ble_eq_true rfl, Nat.le_of_ble_eq_true rfl⟩, hts _ wB111, trivial⟩ ⟨kP.blind, k_pre hP hD hS hE hA⟩ rfl rfl hl.1 rfl (lv_room (Nat.le_of_ble_eq_true rfl)) dX2_greatestLevel_24 ⟨Nat.zero_le _, Nat.zero_le _⟩) hD hS hA (fun H locs hP hD hS => ?_)
        refine lv_iload_n hx hb dX2_greatestLevel_27 rfl (lv_at hl 1 rfl) ?_
        obtain ⟨r28, h28r, hf⟩ := o_bs hf
        refine k_goi (va_runS (As := [.int r24, .int a1]) (rest := []) ⟨hx, hb, hml, hown, hts⟩ (zX2_levelOf l D cy sa (WX q cy u ++ rest) H.size r24 a1  r28  h28r) (va_cwS 2 hts (gB_S wB401 wB402 wB24 wB403) rfl rfl rfl (by decide +kernel) ⟨Nat.le_of_ble_eq_true rfl, Nat.le_of_ble_eq_true rfl⟩) ⟨kP.blind, k_pre hP hD hS hE hA⟩ rfl rfl hl.1 rfl (lv_room (Nat.le_of_ble_eq_true rfl)) dX2_greatestLevel_28 ⟨Nat.zero_le _, Nat.zero_le _⟩) hD hS hA (fun H locs hP hD hS => ?_)
        refine lv_istore (lv' := [(7, .int r28), (0, .ref (q 15)), (1, .int a1), (2, .long s8.1), (4, .long s8.2.1), (6, .int s8.2.2)]) hx hb dX2_greatestLevel_31 hl (by decide) rfl (fun ls hl => ?_)
        refine lv_iload hx hb dX2_greatestLevel_33 (lv_at hl 0 rfl) ?_
        refine lv_if_ne (tgt := 51) hx hb dX2_greatestLevel_35 (by decide) (fun c35 => ?_) (fun c35 => ?_)
        · have hf := o_in c35 hf
          refine lv_iload hx hb dX2_greatestLevel_51 (lv_at hl 0 rfl) ?_
          refine lv_iconst (v := 1) hx hb dX2_greatestLevel_53 (by decide) ?_
          refine lv_icmp_ne (tgt := 69) hx hb dX2_greatestLevel_54 (by decide) (fun c54 => ?_) (fun c54 => ?_)
          · have hf := o_in c54 hf
            refine lv_iinc (v := (s8.2.2 + 1)) (lv' := [(6, .int (s8.2.2 + 1)), (7, .int r28), (0, .ref (q 15)), (1, .int a1), (2, .long s8.1), (4, .long s8.2.1)]) hx hb dX2_greatestLevel_69 hl (k := 5) rfl (by rfl) (by decide) rfl (fun ls hl => ?_)
            refine lv_goto (tgt := 8) hx hb dX2_greatestLevel_72 (by decide) ?_
            obtain rfl := o_ret hf
            exact ih8 _ _ (lpK_r h8z) _ _ _ hP hD hS (lv_sub hl [2, 3, 4, 5, 0] rfl) K8_0
          · have hf := o_ip c54 hf
            refine lv_lload hx hb dX2_greatestLevel_57 (lv_at hl 4 rfl) ?_
            refine lv_aload_n hx hb dX2_greatestLevel_59 rfl (lv_at hl 1 rfl) ?_
            refine va_get (ci := 2) (v := .ref (q 17)) (C := RX2) (T := TX2) (N := 4) hx hb hts inlX2 hown hE.1 hP 15 rfl rfl 2 (by decide) (hts _ wB60) (fun _ h9 => h9) rfl dX2_greatestLevel_60 ?_
            refine lv_iload hx hb dX2_greatestLevel_63 (lv_at hl 5 rfl) ?_
            obtain ⟨hg65, hf⟩ := gd_s hf
            refine va_lald (f := (gA u 0)) hx hb hE.1 hP 17 1 rfl rfl hg65 dX2_greatestLevel_65 ?_
            refine lv_ladd hx hb dX2_greatestLevel_66 ?_
            refine lv_lstore (lv' := [(4, .long (s8.2.1 + ((gA u 0) (s8.2.2.toNatClampNeg)))), (7, .int r28), (0, .ref (q 15)), (1, .int a1), (2, .long s8.1), (6, .int s8.2.2)]) hx hb dX2_greatestLevel_67 hl (by decide) rfl (fun ls hl => ?_)
            refine lv_iinc (v := (s8.2.2 + 1)) (lv' := [(6, .int (s8.2.2 + 1)), (4, .long (s8.2.1 + ((gA u 0) (s8.2.2.toNatClampNeg)))), (7, .int r28), (0, .ref (q 15)), (1, .int a1), (2, .long s8.1)]) hx hb dX2_greatestLevel_69 hl (k := 5) rfl (by rfl) (by decide) rfl (fun ls hl => ?_)
            refine lv_goto (tgt := 8) hx hb dX2_greatestLevel_72 (by decide) ?_
            obtain rfl := o_ret hf
            exact ih8 _ _ (lpK_r h8z) _ _ _ hP hD hS (lv_sub hl [3, 4, 5, 1, 0] rfl) K8_0
        · have hf := o_ip c35 hf
          refine lv_lload_n hx hb dX2_greatestLevel_38 rfl (lv_at hl 3 rfl) ?_
          refine lv_aload_n hx hb dX2_greatestLevel_39 rfl (lv_at hl 1 rfl) ?_
          refine va_get (ci := 2) (v := .ref (q 17)) (C := RX2) (T := TX2) (N := 4) hx hb hts inlX2 hown hE.1 hP 15 rfl rfl 2 (by decide) (hts _ wB60) (fun _ h9 => h9) rfl dX2_greatestLevel_40 ?_
          refine lv_iload hx hb dX2_greatestLevel_43 (lv_at hl 5 rfl) ?_
          obtain ⟨hg45, hf⟩ := gd_s hf
          refine va_lald (f := (gA u 0)) hx hb hE.1 hP 17 1 rfl rfl hg45 dX2_greatestLevel_45 ?_
          refine lv_ladd hx hb dX2_greatestLevel_46 ?_
          refine lv_lstore_n (lv' := [(2, .long (s8.1 + ((gA u 0) (s8.2.2.toNatClampNeg)))), (7, .int r28), (0, .ref (q 15)), (1, .int a1), (4, .long s8.2.1), (6, .int s8.2.2)]) hx hb dX2_greatestLevel_47 rfl hl (by decide) rfl (fun ls hl => ?_)
          refine lv_goto (tgt := 69) hx hb dX2_greatestLevel_48 (by decide) ?_
          refine lv_iinc (v := (s8.2.2 + 1)) (lv' := [(6, .int (s8.2.2 + 1)), (2, .long (s8.1 + ((gA u 0) (s8.2.2.toNatClampNeg)))), (7, .int r28), (0, .ref (q 15)), (1, .int a1), (4, .long s8.2.1)]) hx hb dX2_greatestLevel_69 hl (k := 5) rfl (by rfl) (by decide) rfl (fun ls hl => ?_)
          refine lv_goto (tgt := 8) hx hb dX2_greatestLevel_72 (by decide) ?_
          obtain rfl := o_ret hf
          exact ih8 _ _ (lpK_r h8z) _ _ _ hP hD hS (lv_sub hl [3, 4, 1, 5, 0] rfl) K8_0
  obtain ⟨e8, h8q, hf⟩ := o_bs hf
  obtain ⟨n8v, h8q⟩ := lpF_ex h8q
  refine L8 n8v _ e8 h8q _ _ _ hP hD hS (lv_sub hl [3, 4, 2, 1, 0] rfl) ?_
  intro H locs ls hP hD hS hl
  refine lv_lload_n hx hb dX2_greatestLevel_75 rfl (lv_at hl 1 rfl) ?_
  refine lv_lload hx hb dX2_greatestLevel_76 (lv_at hl 2 rfl) ?_
  refine va_mmax_long hx hb (hml.trans hl.1.symm) hown (hts _ wB505) (hts _ wB506) (hts _ wB240) (hts _ wB507) (Nat.le_of_ble_eq_true rfl) (Nat.le_of_ble_eq_true rfl) (Nat.zero_le _) (Nat.zero_le _) dX2_greatestLevel_78 ?_
  refine lv_aload_n hx hb dX2_greatestLevel_81 rfl (lv_at hl 0 rfl) ?_
  refine va_get (ci := 2) (v := .long (gL u 0)) (C := RX2) (T := TX2) (N := 4) hx hb hts inlX2 hown hE.1 hP 15 rfl rfl 0 (by decide) (hts _ wB408) (fun _ h9 => h9) rfl dX2_greatestLevel_82 ?_
  refine lv_lload_n hx hb dX2_greatestLevel_85 rfl (lv_at hl 1 rfl) ?_
  refine lv_lsub hx hb dX2_greatestLevel_86 ?_
  refine lv_lload hx hb dX2_greatestLevel_87 (lv_at hl 2 rfl) ?_
  refine lv_lsub hx hb dX2_greatestLevel_89 ?_
  refine va_mmax_long hx hb (hml.trans hl.1.symm) hown (hts _ wB505) (hts _ wB506) (hts _ wB240) (hts _ wB507) (Nat.le_of_ble_eq_true rfl) (Nat.le_of_ble_eq_true rfl) (Nat.zero_le _) (Nat.zero_le _) dX2_greatestLevel_90 ?_
  obtain rfl := o_ret hf
  exact k_lret hx hb hr hP hD hS (Nat.zero_le _) (Nat.zero_le _) hlocks dX2_greatestLevel_93
noncomputable def mX2_having_s5 (u : KS) (c1 : Int32) (c2 : Int32) (s5 : Int64 × Int32) : Option ((Int64) ⊕ (Int64 × Int32)) :=
  if 2731 ≤ s5.2 then
  (some (.inl s5.1))
  else
  ((mX2_faultIn s5.2 c1).bind fun r18 =>
  if r18 = (-1) then
  (if 7 = c2 then
  (gd (inb s5.2 2731) (some (.inr ((s5.1 + ((gA u 0) (s5.2.toNatClampNeg))), (s5.2 + 1)))))
  else
  (some (.inr (s5.1, (s5.2 + 1)))))
  else
  (if (r18 / 3) = c2 then
  (gd (inb s5.2 2731) (some (.inr ((s5.1 + ((gA u 0) (s5.2.toNatClampNeg))), (s5.2 + 1)))))
  else
  (some (.inr (s5.1, (s5.2 + 1))))))
noncomputable def mX2_having (u : KS) (a1 : Int32) (a2 : Int32) : Option (Int64) :=
  (lpF (mX2_having_s5 u a1 a2) (0, 0)).bind fun e5 =>
  some e5
abbrev rmX2_having : Room := { frames := 1, cells := 0, slots := 0, locals := 25 }
set_option maxRecDepth 100000 in
set_option maxHeartbeats 4000000 in
theorem zX2_having (l : Launch) (D : va_G) (cy : Nat → ClassId) (sa : Nat → Nat) (q : Nat → Nat) (rest : va_W) (sz : Nat) (u : KS) (a1 : Int32) (a2 : Int32) (res : Int64) (hf : mX2_having u a1 a2 = some res) : kMl l yX2_having (wsK yX2_having cX2_having 8 (some .long)) rmX2_having D cy sa (WX q cy u ++ rest) sz [.ref (q 15), .int a1, .int a2] res (WX q cy u ++ rest) 0 0 := by
  refine kM_of (Qc := fun A => kQl D A res (WX q cy u ++ rest)) (cc := cX2_having) (maxL := 8) (ret := (some .long)) (by decide) (Nat.le_of_ble_eq_true rfl) ?_
  intro p e s m below meth c A hx hb hml hr hts hown hlocks hin hA hP hD hS hE hsz ls hl
  have hown : s.vm.findClass RX2 = some m.cls := hown
  obtain ⟨H, hH0⟩ : ∃ H, H = s.heap := ⟨_, rfl⟩
  obtain ⟨locs, hlocs0⟩ : ∃ locs : List Loc, locs = [] := ⟨_, rfl⟩
  have hP : va_P D vwCl (WX q cy u ++ rest) H := by rw [hH0]; exact hP
  have hS : va_S A s.heap H locs := by rw [hH0, hlocs0]; exact hS
  have hl : lv_has ls 8 [(0, .ref (q 15)), (1, .int a1), (2, .int a2)] := hl
  suffices hgoal : W p l e rmX2_having s m ([.ref (q 15), .int a1, .int a2] : List Value).toArray below meth c H locs 0 0 (MQ below (kQl D A res (WX q cy u ++ rest)) ([.ref (q 15), .int a1, .int a2] : List Value).toArray s 0 0 A) (F0 m 0 ls []) by rw [hH0, hlocs0] at hgoal; exact hgoal
  clear hH0 hlocs0
  unfold mX2_having at hf
  refine lv_lconst (v := 0) hx hb dX2_having_0 (by decide) ?_
  refine lv_lstore_n (lv' := [(3, .long 0), (0, .ref (q 15)), (1, .int a1), (2, .int a2)]) hx hb dX2_having_1 rfl hl (by decide) rfl (fun ls hl => ?_)
  refine lv_iconst (v := 0) hx hb dX2_having_2 (by decide) ?_
  refine lv_istore (lv' := [(5, .int 0), (3, .long 0), (0, .ref (q 15)), (1, .int a1), (2, .int a2)]) hx hb dX2_having_3 hl (by decide) rfl (fun ls hl => ?_)
  have L5 : ∀ (n5v : Nat) (s5 : Int64 × Int32) (e5 : Int64), lpO (mX2_having_s5 u a1 a2) n5v s5 = some e5 → ∀ (H : Heap) (locs : List Loc) (ls : Array Slot), va_P D vwCl (WX q cy u ++ rest) H → va_D A (WX q cy u ++ rest) → va_S A s.heap H locs → lv_has ls 8 [(0, .ref (q 15)), (1, .int a1), (2, .int a2), (3, .long s5.1), (5, .int s5.2)] → (∀ (H : Heap) (locs : List Loc) (ls : Array Slot), va_P D vwCl (WX q cy u ++ rest) H → va_D A (WX q cy u ++ rest) → va_S A s.heap H locs → lv_has ls 8 [(3, .long e5)] → W p l e rmX2_having s m ([.ref (q 15), .int a1, .int a2] : List Value).toArray below meth c H locs 0 0 (MQ below (kQl D A res (WX q cy u ++ rest)) ([.ref (q 15), .int a1, .int a2] : List Value).toArray s 0 0 A) (F0 m 62 ls [])) → W p l e rmX2_having s m ([.ref (q 15), .int a1, .int a2] : List Value).toArray below meth c H locs 0 0 (MQ below (kQl D A res (WX q cy u ++ rest)) ([.ref (q 15), .int a1, .int a2] : List Value).toArray s 0 0 A) (F0 m 5 ls []) := by
    intro n5v
    induction n5v with
    | zero => intro s5 e5 h; exact (lpO_z h).elim
    | succ n5v ih5 =>
      intro s5 e5 h5z H locs ls hP hD hS hl K5_0
      obtain ⟨x5, hf, h5z⟩ := lpO_s h5z
      unfold mX2_having_s5 at hf
      refine lv_iload hx hb dX2_having_5 (lv_at hl 4 rfl) ?_
      refine lv_aload_n hx hb dX2_having_7 rfl (lv_at hl 0 rfl) ?_
      refine va_get (ci := 2) (v := .ref (q 17)) (C := RX2) (T := TX2) (N := 4) hx hb hts inlX2 hown hE.1 hP 15 rfl rfl 2 (by decide) (hts _ wB60) (fun _ h9 => h9) rfl dX2_having_8 ?_
      refine va_alen (v := 2731) hx hb hE.1 hP 17 1 rfl rfl rfl dX2_having_11 ?_
      refine lv_icmp_ge (tgt := 62) hx hb dX2_having_12 (by decide) (fun c12 => ?_) (fun c12 => ?_)
      · have hf := o_ip c12 hf
        obtain rfl := o_ret hf
        obtain rfl := lpK_l h5z
        exact K5_0 _ _ _ hP hD hS (lv_sub hl [3] rfl)
      · have hf := o_in c12 hf
        refine lv_iload hx hb dX2_having_15 (lv_at hl 4 rfl) ?_
        refine lv_iload_n hx hb dX2_having_17 rfl (lv_at hl 1 rfl) ?_
        obtain ⟨r18, h18r, hf⟩ := o_bs hf
        refine k_goi (va_runS (As := [.int s5.2, .int a1]) (rest := []) ⟨hx, hb, hml, hown, hts⟩ (zX2_faultIn l D cy sa (WX q cy u ++ rest) H.size s5.2 a1  r18  h18r) (va_cwS 2 hts (gB_S wB438 wB439 wB24 wB440) rfl rfl rfl (by decide +kernel) ⟨Nat.le_of_ble_eq_true rfl, Nat.le_of_ble_eq_true rfl⟩) ⟨kP.blind, k_pre hP hD hS hE hA⟩ rfl rfl hl.1 rfl (lv_room (Nat.le_of_ble_eq_true rfl)) dX2_having_18 ⟨Nat.zero_le _, Nat.zero_le _⟩) hD hS hA (fun H locs hP hD hS => ?_)
        refine lv_istore (lv' := [(6, .int r18), (0, .ref (q 15)), (1, .int a1), (2, .int a2), (3, .long s5.1), (5, .int s5.2)]) hx hb dX2_having_21 hl (by decide) rfl (fun ls hl => ?_)
        refine lv_iload hx hb dX2_having_23 (lv_at hl 0 rfl) ?_
        refine lv_iconst (v := (-1)) hx hb dX2_having_25 (by decide) ?_
        refine lv_icmp_ne (tgt := 34) hx hb dX2_having_26 (by decide) (fun c26 => ?_) (fun c26 => ?_)
        · have hf := o_in c26 hf
          refine lv_iload hx hb dX2_having_34 (lv_at hl 0 rfl) ?_
          refine lv_iconst (v := 3) hx hb dX2_having_36 (by decide) ?_
          refine lv_idiv hx hb dX2_having_37 (by decide) ?_
          refine lv_istore (lv' := [(7, .int (r18 / 3)), (6, .int r18), (0, .ref (q 15)), (1, .int a1), (2, .int a2), (3, .long s5.1), (5, .int s5.2)]) hx hb dX2_having_38 hl (by decide) rfl (fun ls hl => ?_)
          refine lv_iload hx hb dX2_having_40 (lv_at hl 0 rfl) ?_
          refine lv_iload_n hx hb dX2_having_42 rfl (lv_at hl 4 rfl) ?_
          refine lv_icmp_ne (tgt := 56) hx hb dX2_having_43 (by decide) (fun c43 => ?_) (fun c43 => ?_)
          · have hf := o_in c43 hf
            refine lv_iinc (v := (s5.2 + 1)) (lv' := [(5, .int (s5.2 + 1)), (7, .int (r18 / 3)), (6, .int r18), (0, .ref (q 15)), (1, .int a1), (2, .int a2), (3, .long s5.1)]) hx hb dX2_having_56 hl (k := 6) rfl (by rfl) (by decide) rfl (fun ls hl => ?_)
            refine lv_goto (tgt := 5) hx hb dX2_having_59 (by decide) ?_
            obtain rfl := o_ret hf
            exact ih5 _ _ (lpK_r h5z) _ _ _ hP hD hS (lv_sub hl [3, 4, 5, 6, 0] rfl) K5_0
          · have hf := o_ip c43 hf
            refine lv_lload_n hx hb dX2_having_46 rfl (lv_at hl 5 rfl) ?_
            refine lv_aload_n hx hb dX2_having_47 rfl (lv_at hl 2 rfl) ?_
            refine va_get (ci := 2) (v := .ref (q 17)) (C := RX2) (T := TX2) (N := 4) hx hb hts inlX2 hown hE.1 hP 15 rfl rfl 2 (by decide) (hts _ wB60) (fun _ h9 => h9) rfl dX2_having_48 ?_
            refine lv_iload hx hb dX2_having_51 (lv_at hl 6 rfl) ?_
            obtain ⟨hg53, hf⟩ := gd_s hf
            refine va_lald (f := (gA u 0)) hx hb hE.1 hP 17 1 rfl rfl hg53 dX2_having_53 ?_
            refine lv_ladd hx hb dX2_having_54 ?_
            refine lv_lstore_n (lv' := [(3, .long (s5.1 + ((gA u 0) (s5.2.toNatClampNeg)))), (7, .int (r18 / 3)), (6, .int r18), (0, .ref (q 15)), (1, .int a1), (2, .int a2), (5, .int s5.2)]) hx hb dX2_having_55 rfl hl (by decide) rfl (fun ls hl => ?_)
            refine lv_iinc (v := (s5.2 + 1)) (lv' := [(5, .int (s5.2 + 1)), (3, .long (s5.1 + ((gA u 0) (s5.2.toNatClampNeg)))), (7, .int (r18 / 3)), (6, .int r18), (0, .ref (q 15)), (1, .int a1), (2, .int a2)]) hx hb dX2_having_56 hl (k := 6) rfl (by rfl) (by decide) rfl (fun ls hl => ?_)
            refine lv_goto (tgt := 5) hx hb dX2_having_59 (by decide) ?_
            obtain rfl := o_ret hf
            exact ih5 _ _ (lpK_r h5z) _ _ _ hP hD hS (lv_sub hl [4, 5, 6, 1, 0] rfl) K5_0
        · have hf := o_ip c26 hf
          refine lv_bipush (v := 7) hx hb dX2_having_29 (by decide) ?_
          refine lv_goto (tgt := 38) hx hb dX2_having_31 (by decide) ?_
          refine lv_istore (lv' := [(7, .int 7), (6, .int r18), (0, .ref (q 15)), (1, .int a1), (2, .int a2), (3, .long s5.1), (5, .int s5.2)]) hx hb dX2_having_38 hl (by decide) rfl (fun ls hl => ?_)
          refine lv_iload hx hb dX2_having_40 (lv_at hl 0 rfl) ?_
          refine lv_iload_n hx hb dX2_having_42 rfl (lv_at hl 4 rfl) ?_
          refine lv_icmp_ne (tgt := 56) hx hb dX2_having_43 (by decide) (fun c43 => ?_) (fun c43 => ?_)
          · have hf := o_in c43 hf
            refine lv_iinc (v := (s5.2 + 1)) (lv' := [(5, .int (s5.2 + 1)), (7, .int 7), (6, .int r18), (0, .ref (q 15)), (1, .int a1), (2, .int a2), (3, .long s5.1)]) hx hb dX2_having_56 hl (k := 6) rfl (by rfl) (by decide) rfl (fun ls hl => ?_)
            refine lv_goto (tgt := 5) hx hb dX2_having_59 (by decide) ?_
            obtain rfl := o_ret hf
            exact ih5 _ _ (lpK_r h5z) _ _ _ hP hD hS (lv_sub hl [3, 4, 5, 6, 0] rfl) K5_0
          · have hf := o_ip c43 hf
            refine lv_lload_n hx hb dX2_having_46 rfl (lv_at hl 5 rfl) ?_
            refine lv_aload_n hx hb dX2_having_47 rfl (lv_at hl 2 rfl) ?_
            refine va_get (ci := 2) (v := .ref (q 17)) (C := RX2) (T := TX2) (N := 4) hx hb hts inlX2 hown hE.1 hP 15 rfl rfl 2 (by decide) (hts _ wB60) (fun _ h9 => h9) rfl dX2_having_48 ?_
            refine lv_iload hx hb dX2_having_51 (lv_at hl 6 rfl) ?_
            obtain ⟨hg53, hf⟩ := gd_s hf
            refine va_lald (f := (gA u 0)) hx hb hE.1 hP 17 1 rfl rfl hg53 dX2_having_53 ?_
            refine lv_ladd hx hb dX2_having_54 ?_
            refine lv_lstore_n (lv' := [(3, .long (s5.1 + ((gA u 0) (s5.2.toNatClampNeg)))), (7, .int 7), (6, .int r18), (0, .ref (q 15)), (1, .int a1), (2, .int a2), (5, .int s5.2)]) hx hb dX2_having_55 rfl hl (by decide) rfl (fun ls hl => ?_)
            refine lv_iinc (v := (s5.2 + 1)) (lv' := [(5, .int (s5.2 + 1)), (3, .long (s5.1 + ((gA u 0) (s5.2.toNatClampNeg)))), (7, .int 7), (6, .int r18), (0, .ref (q 15)), (1, .int a1), (2, .int a2)]) hx hb dX2_having_56 hl (k := 6) rfl (by rfl) (by decide) rfl (fun ls hl => ?_)
            refine lv_goto (tgt := 5) hx hb dX2_having_59 (by decide) ?_
            obtain rfl := o_ret hf
            exact ih5 _ _ (lpK_r h5z) _ _ _ hP hD hS (lv_sub hl [4, 5, 6, 1, 0] rfl) K5_0
  obtain ⟨e5, h5q, hf⟩ := o_bs hf
  obtain ⟨n5v, h5q⟩ := lpF_ex h5q
  refine L5 n5v _ e5 h5q _ _ _ hP hD hS (lv_sub hl [2, 3, 4, 1, 0] rfl) ?_
  intro H locs ls hP hD hS hl
  refine lv_lload_n hx hb dX2_having_62 rfl (lv_at hl 0 rfl) ?_
  obtain rfl := o_ret hf
  exact k_lret hx hb hr hP hD hS (Nat.zero_le _) (Nat.zero_le _) hlocks dX2_having_63
noncomputable def mX2_ofTwo_s5 (u : KS) (s5 : Int64 × Int32) : Option ((Int64) ⊕ (Int64 × Int32)) :=
  if 2731 ≤ s5.2 then
  (some (.inl s5.1))
  else
  (gd (inb s5.2 2731) (some (.inr ((s5.1 + ((gA u 0) (s5.2.toNatClampNeg))), (s5.2 + 1)))))
noncomputable def mX2_ofTwo (u : KS) : Option (Int64) :=
  (lpF (mX2_ofTwo_s5 u) (0, 85)).bind fun e5 =>
  some e5
abbrev rmX2_ofTwo : Room := { frames := 0, cells := 0, slots := 0, locals := 0 }
set_option maxRecDepth 100000 in
set_option maxHeartbeats 4000000 in
theorem zX2_ofTwo (l : Launch) (D : va_G) (cy : Nat → ClassId) (sa : Nat → Nat) (q : Nat → Nat) (rest : va_W) (sz : Nat) (u : KS) (res : Int64) (hf : mX2_ofTwo u = some res) : kMl l yX2_ofTwo (wsK yX2_ofTwo cX2_ofTwo 4 (some .long)) rmX2_ofTwo D cy sa (WX q cy u ++ rest) sz [.ref (q 15)] res (WX q cy u ++ rest) 0 0 := by
  refine kM_of (Qc := fun A => kQl D A res (WX q cy u ++ rest)) (cc := cX2_ofTwo) (maxL := 4) (ret := (some .long)) (by decide) (Nat.le_of_ble_eq_true rfl) ?_
  intro p e s m below meth c A hx hb hml hr hts hown hlocks hin hA hP hD hS hE hsz ls hl
  have hown : s.vm.findClass RX2 = some m.cls := hown
  obtain ⟨H, hH0⟩ : ∃ H, H = s.heap := ⟨_, rfl⟩
  obtain ⟨locs, hlocs0⟩ : ∃ locs : List Loc, locs = [] := ⟨_, rfl⟩
  have hP : va_P D vwCl (WX q cy u ++ rest) H := by rw [hH0]; exact hP
  have hS : va_S A s.heap H locs := by rw [hH0, hlocs0]; exact hS
  have hl : lv_has ls 4 [(0, .ref (q 15))] := hl
  suffices hgoal : W p l e rmX2_ofTwo s m ([.ref (q 15)] : List Value).toArray below meth c H locs 0 0 (MQ below (kQl D A res (WX q cy u ++ rest)) ([.ref (q 15)] : List Value).toArray s 0 0 A) (F0 m 0 ls []) by rw [hH0, hlocs0] at hgoal; exact hgoal
  clear hH0 hlocs0
  unfold mX2_ofTwo at hf
  refine lv_lconst (v := 0) hx hb dX2_ofTwo_0 (by decide) ?_
  refine lv_lstore_n (lv' := [(1, .long 0), (0, .ref (q 15))]) hx hb dX2_ofTwo_1 rfl hl (by decide) rfl (fun ls hl => ?_)
  refine lv_bipush (v := 85) hx hb dX2_ofTwo_2 (by decide) ?_
  refine lv_istore_n (lv' := [(3, .int 85), (1, .long 0), (0, .ref (q 15))]) hx hb dX2_ofTwo_4 rfl hl (by decide) rfl (fun ls hl => ?_)
  have L5 : ∀ (n5v : Nat) (s5 : Int64 × Int32) (e5 : Int64), lpO (mX2_ofTwo_s5 u) n5v s5 = some e5 → ∀ (H : Heap) (locs : List Loc) (ls : Array Slot), va_P D vwCl (WX q cy u ++ rest) H → va_D A (WX q cy u ++ rest) → va_S A s.heap H locs → lv_has ls 4 [(0, .ref (q 15)), (1, .long s5.1), (3, .int s5.2)] → (∀ (H : Heap) (locs : List Loc) (ls : Array Slot), va_P D vwCl (WX q cy u ++ rest) H → va_D A (WX q cy u ++ rest) → va_S A s.heap H locs → lv_has ls 4 [(1, .long e5)] → W p l e rmX2_ofTwo s m ([.ref (q 15)] : List Value).toArray below meth c H locs 0 0 (MQ below (kQl D A res (WX q cy u ++ rest)) ([.ref (q 15)] : List Value).toArray s 0 0 A) (F0 m 29 ls [])) → W p l e rmX2_ofTwo s m ([.ref (q 15)] : List Value).toArray below meth c H locs 0 0 (MQ below (kQl D A res (WX q cy u ++ rest)) ([.ref (q 15)] : List Value).toArray s 0 0 A) (F0 m 5 ls []) := by
    intro n5v
    induction n5v with
    | zero => intro s5 e5 h; exact (lpO_z h).elim
    | succ n5v ih5 =>
      intro s5 e5 h5z H locs ls hP hD hS hl K5_0
      obtain ⟨x5, hf, h5z⟩ := lpO_s h5z
      unfold mX2_ofTwo_s5 at hf
      refine lv_iload_n hx hb dX2_ofTwo_5 rfl (lv_at hl 2 rfl) ?_
      refine lv_aload_n hx hb dX2_ofTwo_6 rfl (lv_at hl 0 rfl) ?_
      refine va_get (ci := 2) (v := .ref (q 17)) (C := RX2) (T := TX2) (N := 4) hx hb hts inlX2 hown hE.1 hP 15 rfl rfl 2 (by decide) (hts _ wB60) (fun _ h9 => h9) rfl dX2_ofTwo_7 ?_
      refine va_alen (v := 2731) hx hb hE.1 hP 17 1 rfl rfl rfl dX2_ofTwo_10 ?_
      refine lv_icmp_ge (tgt := 29) hx hb dX2_ofTwo_11 (by decide) (fun c11 => ?_) (fun c11 => ?_)
      · have hf := o_ip c11 hf
        obtain rfl := o_ret hf
        obtain rfl := lpK_l h5z
        exact K5_0 _ _ _ hP hD hS (lv_sub hl [1] rfl)
      · have hf := o_in c11 hf
        refine lv_lload_n hx hb dX2_ofTwo_14 rfl (lv_at hl 1 rfl) ?_
        refine lv_aload_n hx hb dX2_ofTwo_15 rfl (lv_at hl 0 rfl) ?_
        refine va_get (ci := 2) (v := .ref (q 17)) (C := RX2) (T := TX2) (N := 4) hx hb hts inlX2 hown hE.1 hP 15 rfl rfl 2 (by decide) (hts _ wB60) (fun _ h9 => h9) rfl dX2_ofTwo_16 ?_
        refine lv_iload_n hx hb dX2_ofTwo_19 rfl (lv_at hl 2 rfl) ?_
        obtain ⟨hg20, hf⟩ := gd_s hf
        refine va_lald (f := (gA u 0)) hx hb hE.1 hP 17 1 rfl rfl hg20 dX2_ofTwo_20 ?_
        refine lv_ladd hx hb dX2_ofTwo_21 ?_
        refine lv_lstore_n (lv' := [(1, .long (s5.1 + ((gA u 0) (s5.2.toNatClampNeg)))), (0, .ref (q 15)), (3, .int s5.2)]) hx hb dX2_ofTwo_22 rfl hl (by decide) rfl (fun ls hl => ?_)
        refine lv_iinc (v := (s5.2 + 1)) (lv' := [(3, .int (s5.2 + 1)), (1, .long (s5.1 + ((gA u 0) (s5.2.toNatClampNeg)))), (0, .ref (q 15))]) hx hb dX2_ofTwo_23 hl (k := 2) rfl (by rfl) (by decide) rfl (fun ls hl => ?_)
        refine lv_goto (tgt := 5) hx hb dX2_ofTwo_26 (by decide) ?_
        obtain rfl := o_ret hf
        exact ih5 _ _ (lpK_r h5z) _ _ _ hP hD hS (lv_sub hl [2, 1, 0] rfl) K5_0
  obtain ⟨e5, h5q, hf⟩ := o_bs hf
  obtain ⟨n5v, h5q⟩ := lpF_ex h5q
  refine L5 n5v _ e5 h5q _ _ _ hP hD hS (lv_sub hl [2, 1, 0] rfl) ?_
  intro H locs ls hP hD hS hl
  refine lv_lload_n hx hb dX2_ofTwo_29 rfl (lv_at hl 0 rfl) ?_
  obtain rfl := o_ret hf
  exact k_lret hx hb hr hP hD hS (Nat.zero_le _) (Nat.zero_le _) hlocks dX2_ofTwo_30
noncomputable def mX2_total_s15 (c2 : Int32) (s15 : Int32 × KS) : Option ((KS) ⊕ (Int32 × KS)) :=
  if c2 ≤ s15.1 then
  (some (.inl s15.2))
  else
  (gd (inb s15.1 2731) (some (.inr ((s15.1 + 1), (sL s15.2 0 ((gL s15.2 0) + ((gA s15.2 0) (s15.1.toNatClampNeg))))))))
noncomputable def mX2_total (u : KS) : Option (KS) :=
  (lpF (mX2_total_s15 2731) (0, (sL u 0 0))).bind fun e15 =>
  some e15
abbrev rmX2_total : Room := { frames := 0, cells := 0, slots := 0, locals := 0 }
set_option maxRecDepth 100000 in
set_option maxHeartbeats 4000000 in
theorem zX2_total (l : Launch) (D : va_G) (cy : Nat → ClassId) (sa : Nat → Nat) (q : Nat → Nat) (rest : va_W) (sz : Nat) (u : KS) (res : KS) (hf : mX2_total u = some res) : kMv l yX2_total (wsK yX2_total cX2_total 6 none) rmX2_total D cy sa (WX q cy u ++ rest) sz [.ref (q 15)] (WX q cy res ++ rest) 0 0 := by
  refine kM_of (Qc := fun A => kQv D A (WX q cy res ++ rest)) (cc := cX2_total) (maxL := 6) (ret := none) (by decide) (Nat.le_of_ble_eq_true rfl) ?_
  intro p e s m below meth c A hx hb hml hr hts hown hlocks hin hA hP hD hS hE hsz ls hl
  have hown : s.vm.findClass RX2 = some m.cls := hown
  obtain ⟨H, hH0⟩ : ∃ H, H = s.heap := ⟨_, rfl⟩
  obtain ⟨locs, hlocs0⟩ : ∃ locs : List Loc, locs = [] := ⟨_, rfl⟩
  have hP : va_P D vwCl (WX q cy u ++ rest) H := by rw [hH0]; exact hP
  have hS : va_S A s.heap H locs := by rw [hH0, hlocs0]; exact hS
  have hl : lv_has ls 6 [(0, .ref (q 15))] := hl
  suffices hgoal : W p l e rmX2_total s m ([.ref (q 15)] : List Value).toArray below meth c H locs 0 0 (MQ below (kQv D A (WX q cy res ++ rest)) ([.ref (q 15)] : List Value).toArray s 0 0 A) (F0 m 0 ls []) by rw [hH0, hlocs0] at hgoal; exact hgoal
  clear hH0 hlocs0
  unfold mX2_total at hf
  refine lv_aload_n hx hb dX2_total_0 rfl (lv_at hl 0 rfl) ?_
  refine lv_lconst (v := 0) hx hb dX2_total_1 (by decide) ?_
  refine va_put (ci := 2) (v := .long 0) (ty := .long) (C := RX2) (T := TX2) (N := 4) hx hb hts inlX2 tyX2 tyX2_ok nmX2 hown hE.1 hP hD hS 15 rfl rfl 0 (by decide) (hts _ wB408) (fun _ h9 => h9) rfl (by decide +kernel) rfl rfl (Nat.le_of_ble_eq_true rfl) dX2_total_2 (fun H locs hP hD hS => ?_)
  have hP : va_P D vwCl (WX q cy (sL u 0 0) ++ rest) H := hP
  have hD : va_D A (WX q cy (sL u 0 0) ++ rest) := hD
  refine lv_aload_n hx hb dX2_total_5 rfl (lv_at hl 0 rfl) ?_
  refine va_get (ci := 2) (v := .ref (q 17)) (C := RX2) (T := TX2) (N := 4) hx hb hts inlX2 hown hE.1 hP 15 rfl rfl 2 (by decide) (hts _ wB60) (fun _ h9 => h9) rfl dX2_total_6 ?_
  refine lv_astore_n (lv' := [(1, .ref (q 17)), (0, .ref (q 15))]) hx hb dX2_total_9 rfl hl (by decide) rfl (fun ls hl => ?_)
  refine lv_aload_n hx hb dX2_total_10 rfl (lv_at hl 0 rfl) ?_
  refine va_alen (v := 2731) hx hb hE.1 hP 17 1 rfl rfl rfl dX2_total_11 ?_
  refine lv_istore_n (lv' := [(2, .int 2731), (1, .ref (q 17)), (0, .ref (q 15))]) hx hb dX2_total_12 rfl hl (by decide) rfl (fun ls hl => ?_)
  refine lv_iconst (v := 0) hx hb dX2_total_13 (by decide) ?_
  refine lv_istore_n (lv' := [(3, .int 0), (2, .int 2731), (1, .ref (q 17)), (0, .ref (q 15))]) hx hb dX2_total_14 rfl hl (by decide) rfl (fun ls hl => ?_)
  have L15 : ∀ (n15v : Nat) (s15 : Int32 × KS) (e15 : KS), lpO (mX2_total_s15 2731) n15v s15 = some e15 → ∀ (H : Heap) (locs : List Loc) (ls : Array Slot), va_P D vwCl (WX q cy s15.2 ++ rest) H → va_D A (WX q cy s15.2 ++ rest) → va_S A s.heap H locs → lv_has ls 6 [(0, .ref (q 15)), (1, .ref (q 17)), (2, .int 2731), (3, .int s15.1)] → (∀ (H : Heap) (locs : List Loc) (ls : Array Slot), va_P D vwCl (WX q cy e15 ++ rest) H → va_D A (WX q cy e15 ++ rest) → va_S A s.heap H locs → lv_has ls 6 [] → W p l e rmX2_total s m ([.ref (q 15)] : List Value).toArray below meth c H locs 0 0 (MQ below (kQv D A (WX q cy res ++ rest)) ([.ref (q 15)] : List Value).toArray s 0 0 A) (F0 m 42 ls [])) → W p l e rmX2_total s m ([.ref (q 15)] : List Value).toArray below meth c H locs 0 0 (MQ below (kQv D A (WX q cy res ++ rest)) ([.ref (q 15)] : List Value).toArray s 0 0 A) (F0 m 15 ls []) := by
    intro n15v
    induction n15v with
    | zero => intro s15 e15 h; exact (lpO_z h).elim
    | succ n15v ih15 =>
      intro s15 e15 h15z H locs ls hP hD hS hl K15_0
      obtain ⟨x15, hf, h15z⟩ := lpO_s h15z
      unfold mX2_total_s15 at hf
      refine lv_iload_n hx hb dX2_total_15 rfl (lv_at hl 3 rfl) ?_
      refine lv_iload_n hx hb dX2_total_16 rfl (lv_at hl 2 rfl) ?_
      refine lv_icmp_ge (tgt := 42) hx hb dX2_total_17 (by decide) (fun c17 => ?_) (fun c17 => ?_)
      · have hf := o_ip c17 hf
        obtain rfl := o_ret hf
        obtain rfl := lpK_l h15z
        exact K15_0 _ _ _ hP hD hS (lv_sub hl [] rfl)
      · have hf := o_in c17 hf
        refine lv_aload_n hx hb dX2_total_20 rfl (lv_at hl 1 rfl) ?_
        refine lv_iload_n hx hb dX2_total_21 rfl (lv_at hl 3 rfl) ?_
        obtain ⟨hg22, hf⟩ := gd_s hf
        refine va_lald (f := (gA s15.2 0)) hx hb hE.1 hP 17 1 rfl rfl hg22 dX2_total_22 ?_
        refine lv_lstore (lv' := [(4, .long ((gA s15.2 0) (s15.1.toNatClampNeg))), (0, .ref (q 15)), (1, .ref (q 17)), (2, .int 2731), (3, .int s15.1)]) hx hb dX2_total_23 hl (by decide) rfl (fun ls hl => ?_)
        refine lv_aload_n hx hb dX2_total_25 rfl (lv_at hl 1 rfl) ?_
        refine lv_dup hx hb dX2_total_26 rfl ?_
        refine va_get (ci := 2) (v := .long (gL s15.2 0)) (C := RX2) (T := TX2) (N := 4) hx hb hts inlX2 hown hE.1 hP 15 rfl rfl 0 (by decide) (hts _ wB408) (fun _ h9 => h9) rfl dX2_total_27 ?_
        refine lv_lload hx hb dX2_total_30 (lv_at hl 0 rfl) ?_
        refine lv_ladd hx hb dX2_total_32 ?_
        refine va_put (ci := 2) (v := .long ((gL s15.2 0) + ((gA s15.2 0) (s15.1.toNatClampNeg)))) (ty := .long) (C := RX2) (T := TX2) (N := 4) hx hb hts inlX2 tyX2 tyX2_ok nmX2 hown hE.1 hP hD hS 15 rfl rfl 0 (by decide) (hts _ wB408) (fun _ h9 => h9) rfl (by decide +kernel) rfl rfl (Nat.le_of_ble_eq_true rfl) dX2_total_33 (fun H locs hP hD hS => ?_)
        have hP : va_P D vwCl (WX q cy (sL s15.2 0 ((gL s15.2 0) + ((gA s15.2 0) (s15.1.toNatClampNeg)))) ++ rest) H := hP
        have hD : va_D A (WX q cy (sL s15.2 0 ((gL s15.2 0) + ((gA s15.2 0) (s15.1.toNatClampNeg)))) ++ rest) := hD
        refine lv_iinc (v := (s15.1 + 1)) (lv' := [(3, .int (s15.1 + 1)), (4, .long ((gA s15.2 0) (s15.1.toNatClampNeg))), (0, .ref (q 15)), (1, .ref (q 17)), (2, .int 2731)]) hx hb dX2_total_36 hl (k := 4) rfl (by rfl) (by decide) rfl (fun ls hl => ?_)
        refine lv_goto (tgt := 15) hx hb dX2_total_39 (by decide) ?_
        obtain rfl := o_ret hf
        exact ih15 _ _ (lpK_r h15z) _ _ _ hP hD hS (lv_sub hl [2, 3, 4, 0] rfl) K15_0
  obtain ⟨e15, h15q, hf⟩ := o_bs hf
  obtain ⟨n15v, h15q⟩ := lpF_ex h15q
  refine L15 n15v _ e15 h15q _ _ _ hP hD hS (lv_sub hl [3, 2, 1, 0] rfl) ?_
  intro H locs ls hP hD hS hl
  obtain rfl := o_ret hf
  exact k_vret hx hb hr hP hD hS (Nat.zero_le _) (Nat.zero_le _) hlocks dX2_total_42
noncomputable def mX2_weigh_s3 (c1 : Int32) (c2 : Int32) (c3 : Int32) (s3 : Int32 × KS) : Option ((KS) ⊕ (Int32 × KS)) :=
  if 2731 ≤ s3.1 then
  (some (.inl s3.2))
  else
  ((mX5_at 2731 (gR s3.2 12) s3.1).bind fun r19 =>
  (mX2_levelOf r19 c2).bind fun r23 =>
  if r23 = c1 then
  (gd (inb s3.1 2731) (gd (inb s3.1 2731) (some (.inr ((s3.1 + 1), (sA s3.2 0 (vp_updL (gA s3.2 0) (s3.1.toNatClampNeg) (((gA s3.2 0) (s3.1.toNatClampNeg)) * ((2 * c3).toInt64)))))))))
  else
  (gd (inb s3.1 2731) (gd (inb s3.1 2731) (some (.inr ((s3.1 + 1), (sA s3.2 0 (vp_updL (gA s3.2 0) (s3.1.toNatClampNeg) (((gA s3.2 0) (s3.1.toNatClampNeg)) * ((10 - c3).toInt64))))))))))
noncomputable def mX2_weigh (u : KS) (a1 : Int32) (a2 : Int32) (a3 : Int32) : Option (KS) :=
  (lpF (mX2_weigh_s3 a1 a2 a3) (0, u)).bind fun e3 =>
  some e3
abbrev rmX2_weigh : Room := { frames := 1, cells := 0, slots := 0, locals := 21 }
set_option maxRecDepth 100000 in
set_option maxHeartbeats 4000000 in
theorem zX2_weigh (l : Launch) (D : va_G) (cy : Nat → ClassId) (sa : Nat → Nat) (q : Nat → Nat) (rest : va_W) (sz : Nat) (u : KS) (a1 : Int32) (a2 : Int32) (a3 : Int32) (res : KS) (hf : mX2_weigh u a1 a2 a3 = some res) : kMv l yX2_weigh (wsK yX2_weigh cX2_weigh 6 none) rmX2_weigh D cy sa (WX q cy u ++ rest) sz [.ref (q 15), .int a1, .int a2, .int a3] (WX q cy res ++ rest) 0 0 := by
  refine kM_of (Qc := fun A => kQv D A (WX q cy res ++ rest)) (cc := cX2_weigh) (maxL := 6) (ret := none) (by decide) (Nat.le_of_ble_eq_true rfl) ?_
  intro p e s m below meth c A hx hb hml hr hts hown hlocks hin hA hP hD hS hE hsz ls hl
  have hown : s.vm.findClass RX2 = some m.cls := hown
  obtain ⟨H, hH0⟩ : ∃ H, H = s.heap := ⟨_, rfl⟩
  obtain ⟨locs, hlocs0⟩ : ∃ locs : List Loc, locs = [] := ⟨_, rfl⟩
  have hP : va_P D vwCl (WX q cy u ++ rest) H := by rw [hH0]; exact hP
  have hS : va_S A s.heap H locs := by rw [hH0, hlocs0]; exact hS
  have hl : lv_has ls 6 [(0, .ref (q 15)), (1, .int a1), (2, .int a2), (3, .int a3)] := hl
  suffices hgoal : W p l e rmX2_weigh s m ([.ref (q 15), .int a1, .int a2, .int a3] : List Value).toArray below meth c H locs 0 0 (MQ below (kQv D A (WX q cy res ++ rest)) ([.ref (q 15), .int a1, .int a2, .int a3] : List Value).toArray s 0 0 A) (F0 m 0 ls []) by rw [hH0, hlocs0] at hgoal; exact hgoal
  clear hH0 hlocs0
  unfold mX2_weigh at hf
  refine lv_iconst (v := 0) hx hb dX2_weigh_0 (by decide) ?_
  refine lv_istore (lv' := [(4, .int 0), (0, .ref (q 15)), (1, .int a1), (2, .int a2), (3, .int a3)]) hx hb dX2_weigh_1 hl (by decide) rfl (fun ls hl => ?_)
  have L3 : ∀ (n3v : Nat) (s3 : Int32 × KS) (e3 : KS), lpO (mX2_weigh_s3 a1 a2 a3) n3v s3 = some e3 → ∀ (H : Heap) (locs : List Loc) (ls : Array Slot), va_P D vwCl (WX q cy s3.2 ++ rest) H → va_D A (WX q cy s3.2 ++ rest) → va_S A s.heap H locs → lv_has ls 6 [(0, .ref (q 15)), (1, .int a1), (2, .int a2), (3, .int a3), (4, .int s3.1)] → (∀ (H : Heap) (locs : List Loc) (ls : Array Slot), va_P D vwCl (WX q cy e3 ++ rest) H → va_D A (WX q cy e3 ++ rest) → va_S A s.heap H locs → lv_has ls 6 [] → W p l e rmX2_weigh s m ([.ref (q 15), .int a1, .int a2, .int a3] : List Value).toArray below meth c H locs 0 0 (MQ below (kQv D A (WX q cy res ++ rest)) ([.ref (q 15), .int a1, .int a2, .int a3] : List Value).toArray s 0 0 A) (F0 m 70 ls [])) → W p l e rmX2_weigh s m ([.ref (q 15), .int a1, .int a2, .int a3] : List Value).toArray below meth c H locs 0 0 (MQ below (kQv D A (WX q cy res ++ rest)) ([.ref (q 15), .int a1, .int a2, .int a3] : List Value).toArray s 0 0 A) (F0 m 3 ls []) := by
    intro n3v
    induction n3v with
    | zero => intro s3 e3 h; exact (lpO_z h).elim
    | succ n3v ih3 =>
      intro s3 e3 h3z H locs ls hP hD hS hl K3_0
      obtain ⟨x3, hf, h3z⟩ := lpO_s h3z
      unfold mX2_weigh_s3 at hf
      refine lv_iload hx hb dX2_weigh_3 (lv_at hl 4 rfl) ?_
      refine lv_aload_n hx hb dX2_weigh_5 rfl (lv_at hl 0 rfl) ?_
      refine va_get (ci := 2) (v := .ref (q 17)) (C := RX2) (T := TX2) (N := 4) hx hb hts inlX2 hown hE.1 hP 15 rfl rfl 2 (by decide) (hts _ wB60) (fun _ h9 => h9) rfl dX2_weigh_6 ?_
      refine va_alen (v := 2731) hx hb hE.1 hP 17 1 rfl rfl rfl dX2_weigh_9 ?_
      refine lv_icmp_ge (tgt := 70) hx hb dX2_weigh_10 (by decide) (fun c10 => ?_) (fun c10 => ?_)
      · have hf := o_ip c10 hf
        obtain rfl := o_ret hf
        obtain rfl := lpK_l h3z
        exact K3_0 _ _ _ hP hD hS (lv_sub hl [] rfl)
      · have hf := o_in c10 hf
        refine lv_aload_n hx hb dX2_weigh_13 rfl (lv_at hl 0 rfl) ?_
        refine va_get (ci := 2) (v := .ref (q 18)) (C := RX2) (T := TX2) (N := 4) hx hb hts inlX2 hown hE.1 hP 15 rfl rfl 3 (by decide) (hts _ wB61) (fun _ h9 => h9) rfl dX2_weigh_14 ?_
        refine lv_iload hx hb dX2_weigh_17 (lv_at hl 4 rfl) ?_
        obtain ⟨r19, h19r, hf⟩ := o_bs hf
        refine k_goi (va_runSN (As := [.ref (q 18), .int s3.1]) (rest := []) ⟨hx, hb, hml, hown, hts⟩ (zX5_at l D cy sa (WX q cy s3.2 ++ rest) H.size 18 (q 18) 2731 (gR s3.2 12) s3.1 r19 rfl h19r) ⟨va_cnB 2 hts (gB_K wB112) rfl rfl rfl (hE.2.1.1 _ (List.mem_of_getElem? (i := 8) rfl)) (hts _ wB2) (by decide +kernel) ⟨Nat.le_of_ble_eq_true rfl, Nat.le_of_ble_eq_true rfl⟩, hts _ wB111, trivial⟩ ⟨kP.blind, k_pre hP hD hS hE hA⟩ rfl rfl hl.1 rfl (lv_room (Nat.le_of_ble_eq_true rfl)) dX2_weigh_19 ⟨Nat.zero_le _, Nat.zero_le _⟩) hD hS hA (fun H locs hP hD hS => ?_)
        refine lv_iload_n hx hb dX2_weigh_22 rfl (lv_at hl 2 rfl) ?_
        obtain ⟨r23, h23r, hf⟩ := o_bs hf
        refine k_goi (va_runS (As := [.int r19, .int a2]) (rest := []) ⟨hx, hb, hml, hown, hts⟩ (zX2_levelOf l D cy sa (WX q cy s3.2 ++ rest) H.size r19 a2  r23  h23r) (va_cwS 2 hts (gB_S wB401 wB402 wB24 wB403) rfl rfl rfl (by decide +kernel) ⟨Nat.le_of_ble_eq_true rfl, Nat.le_of_ble_eq_true rfl⟩) ⟨kP.blind, k_pre hP hD hS hE hA⟩ rfl rfl hl.1 rfl (lv_room (Nat.le_of_ble_eq_true rfl)) dX2_weigh_23 ⟨Nat.zero_le _, Nat.zero_le _⟩) hD hS hA (fun H locs hP hD hS => ?_)
        refine lv_iload_n hx hb dX2_weigh_26 rfl (lv_at hl 1 rfl) ?_
        refine lv_icmp_ne (tgt := 34) hx hb dX2_weigh_27 (by decide) (fun c27 => ?_) (fun c27 => ?_)
        · have hf := o_in c27 hf
          refine lv_iconst (v := 0) hx hb dX2_weigh_34 (by decide) ?_
          refine lv_istore (lv' := [(5, .int 0), (0, .ref (q 15)), (1, .int a1), (2, .int a2), (3, .int a3), (4, .int s3.1)]) hx hb dX2_weigh_35 hl (by decide) rfl (fun ls hl => ?_)
          refine lv_aload_n hx hb dX2_weigh_37 rfl (lv_at hl 1 rfl) ?_
          refine va_get (ci := 2) (v := .ref (q 17)) (C := RX2) (T := TX2) (N := 4) hx hb hts inlX2 hown hE.1 hP 15 rfl rfl 2 (by decide) (hts _ wB60) (fun _ h9 => h9) rfl dX2_weigh_38 ?_
          refine lv_iload hx hb dX2_weigh_41 (lv_at hl 5 rfl) ?_
          refine lv_dup2_11 hx hb dX2_weigh_43 rfl rfl ?_
          obtain ⟨hg44, hf⟩ := gd_s hf
          refine va_lald (f := (gA s3.2 0)) hx hb hE.1 hP 17 1 rfl rfl hg44 dX2_weigh_44 ?_
          refine lv_iload hx hb dX2_weigh_45 (lv_at hl 0 rfl) ?_
          refine lv_if_eq (tgt := 57) hx hb dX2_weigh_47 (by decide) (fun c47 => ?_) (fun c47 => absurd c47 (by decide))
          refine lv_bipush (v := 10) hx hb dX2_weigh_57 (by decide) ?_
          refine lv_iload_n hx hb dX2_weigh_59 rfl (lv_at hl 4 rfl) ?_
          refine lv_isub hx hb dX2_weigh_60 ?_
          refine lv_i2l (v := ((10 - a3).toInt64)) hx hb dX2_weigh_61 rfl ?_
          refine lv_lmul hx hb dX2_weigh_62 ?_
          obtain ⟨hg63, hf⟩ := gd_s hf
          refine va_last (f := (gA s3.2 0)) hx hb hE.1 hP hD hS 17 1 rfl rfl hg63 dX2_weigh_63 (fun H locs hP hD hS => ?_)
          have hP : va_P D vwCl (WX q cy (sA s3.2 0 (vp_updL (gA s3.2 0) (s3.1.toNatClampNeg) (((gA s3.2 0) (s3.1.toNatClampNeg)) * ((10 - a3).toInt64)))) ++ rest) H := hP
          have hD : va_D A (WX q cy (sA s3.2 0 (vp_updL (gA s3.2 0) (s3.1.toNatClampNeg) (((gA s3.2 0) (s3.1.toNatClampNeg)) * ((10 - a3).toInt64)))) ++ rest) := hD
          refine lv_iinc (v := (s3.1 + 1)) (lv' := [(4, .int (s3.1 + 1)), (5, .int 0), (0, .ref (q 15)), (1, .int a1), (2, .int a2), (3, .int a3)]) hx hb dX2_weigh_64 hl (k := 5) rfl (by rfl) (by decide) rfl (fun ls hl => ?_)
          refine lv_goto (tgt := 3) hx hb dX2_weigh_67 (by decide) ?_
          obtain rfl := o_ret hf
          exact ih3 _ _ (lpK_r h3z) _ _ _ hP hD hS (lv_sub hl [2, 3, 4, 5, 0] rfl) K3_0
        · have hf := o_ip c27 hf
          refine lv_iconst (v := 1) hx hb dX2_weigh_30 (by decide) ?_
          refine lv_goto (tgt := 35) hx hb dX2_weigh_31 (by decide) ?_
          refine lv_istore (lv' := [(5, .int 1), (0, .ref (q 15)), (1, .int a1), (2, .int a2), (3, .int a3), (4, .int s3.1)]) hx hb dX2_weigh_35 hl (by decide) rfl (fun ls hl => ?_)
          refine lv_aload_n hx hb dX2_weigh_37 rfl (lv_at hl 1 rfl) ?_
          refine va_get (ci := 2) (v := .ref (q 17)) (C := RX2) (T := TX2) (N := 4) hx hb hts inlX2 hown hE.1 hP 15 rfl rfl 2 (by decide) (hts _ wB60) (fun _ h9 => h9) rfl dX2_weigh_38 ?_
          refine lv_iload hx hb dX2_weigh_41 (lv_at hl 5 rfl) ?_
          refine lv_dup2_11 hx hb dX2_weigh_43 rfl rfl ?_
          obtain ⟨hg44, hf⟩ := gd_s hf
          refine va_lald (f := (gA s3.2 0)) hx hb hE.1 hP 17 1 rfl rfl hg44 dX2_weigh_44 ?_
          refine lv_iload hx hb dX2_weigh_45 (lv_at hl 0 rfl) ?_
          refine lv_if_eq (tgt := 57) hx hb dX2_weigh_47 (by decide) (fun c47 => absurd c47 (by decide)) (fun c47 => ?_)
          refine lv_iconst (v := 2) hx hb dX2_weigh_50 (by decide) ?_
          refine lv_iload_n hx hb dX2_weigh_51 rfl (lv_at hl 4 rfl) ?_
          refine lv_imul hx hb dX2_weigh_52 ?_
          refine lv_i2l (v := ((2 * a3).toInt64)) hx hb dX2_weigh_53 rfl ?_
          refine lv_goto (tgt := 62) hx hb dX2_weigh_54 (by decide) ?_
          refine lv_lmul hx hb dX2_weigh_62 ?_
          obtain ⟨hg63, hf⟩ := gd_s hf
          refine va_last (f := (gA s3.2 0)) hx hb hE.1 hP hD hS 17 1 rfl rfl hg63 dX2_weigh_63 (fun H locs hP hD hS => ?_)
          have hP : va_P D vwCl (WX q cy (sA s3.2 0 (vp_updL (gA s3.2 0) (s3.1.toNatClampNeg) (((gA s3.2 0) (s3.1.toNatClampNeg)) * ((2 * a3).toInt64)))) ++ rest) H := hP
          have hD : va_D A (WX q cy (sA s3.2 0 (vp_updL (gA s3.2 0) (s3.1.toNatClampNeg) (((gA s3.2 0) (s3.1.toNatClampNeg)) * ((2 * a3).toInt64)))) ++ rest) := hD
          refine lv_iinc (v := (s3.1 + 1)) (lv' := [(4, .int (s3.1 + 1)), (5, .int 1), (0, .ref (q 15)), (1, .int a1), (2, .int a2), (3, .int a3)]) hx hb dX2_weigh_64 hl (k := 5) rfl (by rfl) (by decide) rfl (fun ls hl => ?_)
          refine lv_goto (tgt := 3) hx hb dX2_weigh_67 (by decide) ?_
          obtain rfl := o_ret hf
          exact ih3 _ _ (lpK_r h3z) _ _ _ hP hD hS (lv_sub hl [2, 3, 4, 5, 0] rfl) K3_0
  obtain ⟨e3, h3q, hf⟩ := o_bs hf
  obtain ⟨n3v, h3q⟩ := lpF_ex h3q
  refine L3 n3v _ e3 h3q _ _ _ hP hD hS (lv_sub hl [1, 2, 3, 4, 0] rfl) ?_
  intro H locs ls hP hD hS hl
  obtain rfl := o_ret hf
  exact k_vret hx hb hr hP hD hS (Nat.zero_le _) (Nat.zero_le _) hlocks dX2_weigh_70
noncomputable def mX5_copy_s2 (n0 : Nat) (f0 : Nat → Int32) (n1 : Nat) (s2 : Int32 × ((Nat → Int32))) : Option ((((Nat → Int32))) ⊕ (Int32 × ((Nat → Int32)))) :=
  if (Int32.ofNat n0) ≤ s2.1 then
  (some (.inl s2.2))
  else
  (if (Int32.ofNat n1) ≤ s2.1 then
  (some (.inl s2.2))
  else
  (gd (inb s2.1 n0) (gd (inb s2.1 n1) (some (.inr ((s2.1 + 1), (upd s2.2 (s2.1.toNatClampNeg) (f0 (s2.1.toNatClampNeg)))))))))
noncomputable def mX5_copy (n0 : Nat) (f0 : Nat → Int32) (n1 : Nat) (f1 : Nat → Int32) : Option (((Nat → Int32))) :=
  (lpF (mX5_copy_s2 n0 f0 n1) (0, f1)).bind fun e2 =>
  some e2
abbrev rmX5_copy : Room := { frames := 0, cells := 0, slots := 0, locals := 0 }
set_option maxRecDepth 100000 in
set_option maxHeartbeats 4000000 in
theorem zX5_copy (l : Launch) (D : va_G) (cy : Nat → ClassId) (sa : Nat → Nat) (ws : va_W) (sz : Nat) (k0 d0 n0 : Nat) (f0 : Nat → Int32) (k1 d1 n1 : Nat) (f1 : Nat → Int32) (res : ((Nat → Int32))) (ha0 : ws[k0]? = some (kII d0 (cy 0) n0 f0)) (ha1 : ws[k1]? = some (kII d1 (cy 0) n1 f1)) (hk01 : k0 ≠ k1) (hf : mX5_copy n0 f0 n1 f1 = some res) : kMv l yX5_copy (wsK yX5_copy cX5_copy 3 none) rmX5_copy D cy sa (ws) sz [.ref d0, .ref d1] ((ws.set k1 (kII d1 (cy 0) n1 res))) 0 0 := by
  refine kM_of (Qc := fun A => kQv D A ((ws.set k1 (kII d1 (cy 0) n1 res)))) (cc := cX5_copy) (maxL := 3) (ret := none) (by decide) (Nat.le_of_ble_eq_true rfl) ?_
  intro p e s m below meth c A hx hb hml hr hts hown hlocks hin hA hP hD hS hE hsz ls hl
  have hown : s.vm.findClass RX5 = some m.cls := hown
  have hk10 : k1 ≠ k0 := fun h => hk01 h.symm
  obtain ⟨H, hH0⟩ : ∃ H, H = s.heap := ⟨_, rfl⟩
  obtain ⟨locs, hlocs0⟩ : ∃ locs : List Loc, locs = [] := ⟨_, rfl⟩
  have hP : va_P D vwCl (ws) H := by rw [hH0]; exact hP
  have hS : va_S A s.heap H locs := by rw [hH0, hlocs0]; exact hS
  have hl : lv_has ls 3 [(0, .ref d0), (1, .ref d1)] := hl
  suffices hgoal : W p l e rmX5_copy s m ([.ref d0, .ref d1] : List Value).toArray below meth c H locs 0 0 (MQ below (kQv D A ((ws.set k1 (kII d1 (cy 0) n1 res)))) ([.ref d0, .ref d1] : List Value).toArray s 0 0 A) (F0 m 0 ls []) by rw [hH0, hlocs0] at hgoal; exact hgoal
  clear hH0 hlocs0
  unfold mX5_copy at hf
  refine lv_iconst (v := 0) hx hb dX5_copy_0 (by decide) ?_
  refine lv_istore_n (lv' := [(2, .int 0), (0, .ref d0), (1, .ref d1)]) hx hb dX5_copy_1 rfl hl (by decide) rfl (fun ls hl => ?_)
  have hP : va_P D vwCl ((ws.set k1 (kII d1 (cy 0) n1 f1))) H := by rw [k_setself ha1]; exact hP
  have hD : va_D A ((ws.set k1 (kII d1 (cy 0) n1 f1))) := by rw [k_setself ha1]; exact hD
  have L2 : ∀ (n2v : Nat) (s2 : Int32 × ((Nat → Int32))) (e2 : ((Nat → Int32))), lpO (mX5_copy_s2 n0 f0 n1) n2v s2 = some e2 → ∀ (H : Heap) (locs : List Loc) (ls : Array Slot), va_P D vwCl ((ws.set k1 (kII d1 (cy 0) n1 s2.2))) H → va_D A ((ws.set k1 (kII d1 (cy 0) n1 s2.2))) → va_S A s.heap H locs → lv_has ls 3 [(0, .ref d0), (1, .ref d1), (2, .int s2.1)] → (∀ (H : Heap) (locs : List Loc) (ls : Array Slot), va_P D vwCl ((ws.set k1 (kII d1 (cy 0) n1 e2))) H → va_D A ((ws.set k1 (kII d1 (cy 0) n1 e2))) → va_S A s.heap H locs → lv_has ls 3 [] → W p l e rmX5_copy s m ([.ref d0, .ref d1] : List Value).toArray below meth c H locs 0 0 (MQ below (kQv D A ((ws.set k1 (kII d1 (cy 0) n1 res)))) ([.ref d0, .ref d1] : List Value).toArray s 0 0 A) (F0 m 26 ls [])) → W p l e rmX5_copy s m ([.ref d0, .ref d1] : List Value).toArray below meth c H locs 0 0 (MQ below (kQv D A ((ws.set k1 (kII d1 (cy 0) n1 res)))) ([.ref d0, .ref d1] : List Value).toArray s 0 0 A) (F0 m 2 ls []) := by
    intro n2v
    induction n2v with
    | zero => intro s2 e2 h; exact (lpO_z h).elim
    | succ n2v ih2 =>
      intro s2 e2 h2z H locs ls hP hD hS hl K2_0
      obtain ⟨x2, hf, h2z⟩ := lpO_s h2z
      unfold mX5_copy_s2 at hf
      refine lv_iload_n hx hb dX5_copy_2 rfl (lv_at hl 2 rfl) ?_
      refine lv_aload_n hx hb dX5_copy_3 rfl (lv_at hl 0 rfl) ?_
      refine va_alen (v := (Int32.ofNat n0)) hx hb hE.1 hP k0 0 (k_gother hk10 ha0) rfl rfl dX5_copy_4 ?_
      refine lv_icmp_ge (tgt := 26) hx hb dX5_copy_5 (by decide) (fun c5 => ?_) (fun c5 => ?_)
      · have hf := o_ip c5 hf
        obtain rfl := o_ret hf
        obtain rfl := lpK_l h2z
        exact K2_0 _ _ _ hP hD hS (lv_sub hl [] rfl)
      · have hf := o_in c5 hf
        refine lv_iload_n hx hb dX5_copy_8 rfl (lv_at hl 2 rfl) ?_
        refine lv_aload_n hx hb dX5_copy_9 rfl (lv_at hl 1 rfl) ?_
        refine va_alen (v := (Int32.ofNat n1)) hx hb hE.1 hP k1 0 (k_gset ha1) rfl rfl dX5_copy_10 ?_
        refine lv_icmp_ge (tgt := 26) hx hb dX5_copy_11 (by decide) (fun c11 => ?_) (fun c11 => ?_)
        · have hf := o_ip c11 hf
          obtain rfl := o_ret hf
          obtain rfl := lpK_l h2z
          exact K2_0 _ _ _ hP hD hS (lv_sub hl [] rfl)
        · have hf := o_in c11 hf
          refine lv_aload_n hx hb dX5_copy_14 rfl (lv_at hl 1 rfl) ?_
          refine lv_iload_n hx hb dX5_copy_15 rfl (lv_at hl 2 rfl) ?_
          refine lv_aload_n hx hb dX5_copy_16 rfl (lv_at hl 0 rfl) ?_
          refine lv_iload_n hx hb dX5_copy_17 rfl (lv_at hl 2 rfl) ?_
          obtain ⟨hg18, hf⟩ := gd_s hf
          refine va_iald (f := f0) hx hb hE.1 hP k0 0 (k_gother hk10 ha0) rfl hg18 dX5_copy_18 ?_
          obtain ⟨hg19, hf⟩ := gd_s hf
          refine va_iast (f := s2.2) hx hb hE.1 hP hD hS k1 0 (k_gset ha1) rfl hg19 dX5_copy_19 (fun H locs hP hD hS => ?_)
          have hP : va_P D vwCl ((ws.set k1 (kII d1 (cy 0) n1 (upd s2.2 (s2.1.toNatClampNeg) (f0 (s2.1.toNatClampNeg)))))) H := by rw [List.set_set] at hP; exact hP
          have hD : va_D A ((ws.set k1 (kII d1 (cy 0) n1 (upd s2.2 (s2.1.toNatClampNeg) (f0 (s2.1.toNatClampNeg)))))) := by rw [List.set_set] at hD; exact hD
          refine lv_iinc (v := (s2.1 + 1)) (lv' := [(2, .int (s2.1 + 1)), (0, .ref d0), (1, .ref d1)]) hx hb dX5_copy_20 hl (k := 2) rfl (by rfl) (by decide) rfl (fun ls hl => ?_)
          refine lv_goto (tgt := 2) hx hb dX5_copy_23 (by decide) ?_
          obtain rfl := o_ret hf
          exact ih2 _ _ (lpK_r h2z) _ _ _ hP hD hS (lv_sub hl [1, 2, 0] rfl) K2_0
  obtain ⟨e2, h2q, hf⟩ := o_bs hf
  obtain ⟨n2v, h2q⟩ := lpF_ex h2q
  refine L2 n2v _ e2 h2q _ _ _ hP hD hS (lv_sub hl [1, 2, 0] rfl) ?_
  intro H locs ls hP hD hS hl
  obtain rfl := o_ret hf
  exact k_vret hx hb hr hP hD hS (Nat.zero_le _) (Nat.zero_le _) hlocks dX5_copy_26
noncomputable def mX3_become (u : KS) : Option (KS) :=
  (mX5_copy 120 (gR u 11) 120 (gR u 1)).bind fun r8 =>
  (mX5_copy 4 (gR u 12) 4 (gR u 2)).bind fun r27 =>
  (mX5_copy 7 (gR u 13) 7 (gR u 3)).bind fun r38 =>
  (mX5_copy 4 (gR u 14) 4 (gR u 4)).bind fun r49 =>
  (mX5_copy 32 (gR u 15) 32 (gR u 5)).bind fun r60 =>
  (mX5_copy 18 (gR u 16) 18 (gR u 6)).bind fun r79 =>
  some (sR (sR (sR (sR (sR (sR (sI (sI (sI u 2 (gI u 12)) 3 (gI u 13)) 4 (gI u 14)) 1 r8) 2 r27) 3 r38) 4 r49) 5 r60) 6 r79)
abbrev rmX3_become : Room := { frames := 1, cells := 0, slots := 0, locals := 22 }
set_option maxRecDepth 100000 in
set_option maxHeartbeats 4000000 in
theorem zX3_become (l : Launch) (D : va_G) (cy : Nat → ClassId) (sa : Nat → Nat) (q : Nat → Nat) (rest : va_W) (sz : Nat) (u : KS) (res : KS) (hf : mX3_become u = some res) : kMv l yX3_become (wsK yX3_become cX3_become 2 none) rmX3_become D cy sa (WKK q cy u ++ rest) sz [.ref (q 0), .ref (q 7)] (WKK q cy res ++ rest) 0 0 := by
  refine kM_of (Qc := fun A => kQv D A (WKK q cy res ++ rest)) (cc := cX3_become) (maxL := 2) (ret := none) (by decide) (Nat.le_of_ble_eq_true rfl) ?_
  intro p e s m below meth c A hx hb hml hr hts hown hlocks hin hA hP hD hS hE hsz ls hl
  have hown : s.vm.findClass RX3 = some m.cls := hown
  obtain ⟨H, hH0⟩ : ∃ H, H = s.heap := ⟨_, rfl⟩
  obtain ⟨locs, hlocs0⟩ : ∃ locs : List Loc, locs = [] := ⟨_, rfl⟩
  have hP : va_P D vwCl (WKK q cy u ++ rest) H := by rw [hH0]; exact hP
  have hS : va_S A s.heap H locs := by rw [hH0, hlocs0]; exact hS
  have hl : lv_has ls 2 [(0, .ref (q 0)), (1, .ref (q 7))] := hl
  suffices hgoal : W p l e rmX3_become s m ([.ref (q 0), .ref (q 7)] : List Value).toArray below meth c H locs 0 0 (MQ below (kQv D A (WKK q cy res ++ rest)) ([.ref (q 0), .ref (q 7)] : List Value).toArray s 0 0 A) (F0 m 0 ls []) by rw [hH0, hlocs0] at hgoal; exact hgoal
  clear hH0 hlocs0
  unfold mX3_become at hf
  refine lv_aload_n hx hb dX3_become_0 rfl (lv_at hl 1 rfl) ?_
  refine va_get (ci := 3) (v := .ref (q 8)) (C := RX3) (T := TX3) (N := 9) hx hb hts inlX3 hown hE.1 hP 7 rfl rfl 0 (by decide) (hts _ wB41) (fun _ h9 => h9) rfl dX3_become_1 ?_
  refine lv_aload_n hx hb dX3_become_4 rfl (lv_at hl 0 rfl) ?_
  refine va_get (ci := 3) (v := .ref (q 1)) (C := RX3) (T := TX3) (N := 9) hx hb hts inlX3 hown hE.1 hP 0 rfl rfl 0 (by decide) (hts _ wB41) (fun _ h9 => h9) rfl dX3_become_5 ?_
  obtain ⟨r8, h8r, hf⟩ := o_bs hf
  refine k_gov (va_runSN (As := [.ref (q 8), .ref (q 1)]) (rest := []) ⟨hx, hb, hml, hown, hts⟩ (zX5_copy l D cy sa (WKK q cy u ++ rest) H.size 8 (q 8) 120 (gR u 11) 1 (q 1) 120 (gR u 1)  r8 rfl rfl (by decide) h8r) ⟨va_cnB 2 hts (gB_K wB583) rfl rfl rfl (hE.2.1.1 _ (List.mem_of_getElem? (i := 12) rfl)) (hts _ wB2) (by decide +kernel) ⟨Nat.le_of_ble_eq_true rfl, Nat.le_of_ble_eq_true rfl⟩, hts _ wB582, trivial⟩ ⟨kP.blind, k_pre hP hD hS hE hA⟩ rfl rfl hl.1 rfl (lv_room (Nat.le_of_ble_eq_true rfl)) dX3_become_8 ⟨Nat.zero_le _, Nat.zero_le _⟩) hD hS hA (fun H locs hP hD hS => ?_)
  have hP : va_P D vwCl (WKK q cy (sR u 1 r8) ++ rest) H := hP
  have hD : va_D A (WKK q cy (sR u 1 r8) ++ rest) := hD
  refine lv_aload_n hx hb dX3_become_11 rfl (lv_at hl 0 rfl) ?_
  refine lv_aload_n hx hb dX3_become_12 rfl (lv_at hl 1 rfl) ?_
  refine va_get (ci := 3) (v := .int (gI u 12)) (C := RX3) (T := TX3) (N := 9) hx hb hts inlX3 hown hE.1 hP 7 rfl rfl 1 (by decide) (hts _ wB579) (fun _ h9 => h9) rfl dX3_become_13 ?_
  refine va_put (ci := 3) (v := .int (gI u 12)) (ty := .int) (C := RX3) (T := TX3) (N := 9) hx hb hts inlX3 tyX3 tyX3_ok nmX3 hown hE.1 hP hD hS 0 rfl rfl 1 (by decide) (hts _ wB579) (fun _ h9 => h9) rfl (by decide +kernel) rfl rfl (Nat.le_of_ble_eq_true rfl) dX3_become_16 (fun H locs hP hD hS => ?_)
  have hQ : ∀ (xb : KS) (x0 : (Nat → Int32)) (xn : Int32), (WKK q cy (sR xb 1 x0) ++ rest).set 0 (q 0, .inr (3, [.ref (q 1), .int (gI (sR xb 1 x0) 2), .ref (q 2), .ref (q 3), .ref (q 4), .ref (q 5), .int (gI (sR xb 1 x0) 3), .ref (q 6), .int (gI (sR xb 1 x0) 4)].set 1 (.int xn))) = WKK q cy (sR (sI xb 2 xn) 1 x0) ++ rest := fun _ _ _ => rfl
  have hP : va_P D vwCl (WKK q cy (sR (sI u 2 (gI u 12)) 1 r8) ++ rest) H := k_wP (hQ u r8 (gI u 12)) hP
  have hD : va_D A (WKK q cy (sR (sI u 2 (gI u 12)) 1 r8) ++ rest) := k_wD (hQ u r8 (gI u 12)) hD
  clear hQ
  refine lv_aload_n hx hb dX3_become_19 rfl (lv_at hl 1 rfl) ?_
  refine va_get (ci := 3) (v := .ref (q 9)) (C := RX3) (T := TX3) (N := 9) hx hb hts inlX3 hown hE.1 hP 7 rfl rfl 2 (by decide) (hts _ wB42) (fun _ h9 => h9) rfl dX3_become_20 ?_
  refine lv_aload_n hx hb dX3_become_23 rfl (lv_at hl 0 rfl) ?_
  refine va_get (ci := 3) (v := .ref (q 2)) (C := RX3) (T := TX3) (N := 9) hx hb hts inlX3 hown hE.1 hP 0 rfl rfl 2 (by decide) (hts _ wB42) (fun _ h9 => h9) rfl dX3_become_24 ?_
  obtain ⟨r27, h27r, hf⟩ := o_bs hf
  refine k_gov (va_runSN (As := [.ref (q 9), .ref (q 2)]) (rest := []) ⟨hx, hb, hml, hown, hts⟩ (zX5_copy l D cy sa (WKK q cy (sR (sI u 2 (gI u 12)) 1 r8) ++ rest) H.size 9 (q 9) 4 (gR u 12) 2 (q 2) 4 (gR u 2)  r27 rfl rfl (by decide) h27r) ⟨va_cnB 2 hts (gB_K wB583) rfl rfl rfl (hE.2.1.1 _ (List.mem_of_getElem? (i := 12) rfl)) (hts _ wB2) (by decide +kernel) ⟨Nat.le_of_ble_eq_true rfl, Nat.le_of_ble_eq_true rfl⟩, hts _ wB582, trivial⟩ ⟨kP.blind, k_pre hP hD hS hE hA⟩ rfl rfl hl.1 rfl (lv_room (Nat.le_of_ble_eq_true rfl)) dX3_become_27 ⟨Nat.zero_le _, Nat.zero_le _⟩) hD hS hA (fun H locs hP hD hS => ?_)
  have hQ : ∀ (xb : KS) (x0 : Int32) (x1 : (Nat → Int32)) (xn : (Nat → Int32)), (WKK q cy (sR (sI xb 2 x0) 1 x1) ++ rest).set 2 (q 2, .inl (cy 0, 4, .inl xn)) = WKK q cy (sR (sR (sI xb 2 x0) 1 x1) 2 xn) ++ rest := fun _ _ _ _ => rfl
  have hP : va_P D vwCl (WKK q cy (sR (sR (sI u 2 (gI u 12)) 1 r8) 2 r27) ++ rest) H := k_wP (hQ u (gI u 12) r8 r27) hP
  have hD : va_D A (WKK q cy (sR (sR (sI u 2 (gI u 12)) 1 r8) 2 r27) ++ rest) := k_wD (hQ u (gI u 12) r8 r27) hD
  clear hQ
  refine lv_aload_n hx hb dX3_become_30 rfl (lv_at hl 1 rfl) ?_
  refine va_get (ci := 3) (v := .ref (q 10)) (C := RX3) (T := TX3) (N := 9) hx hb hts inlX3 hown hE.1 hP 7 rfl rfl 3 (by decide) (hts _ wB43) (fun _ h9 => h9) rfl dX3_become_31 ?_
  refine lv_aload_n hx hb dX3_become_34 rfl (lv_at hl 0 rfl) ?_
  refine va_get (ci := 3) (v := .ref (q 3)) (C := RX3) (T := TX3) (N := 9) hx hb hts inlX3 hown hE.1 hP 0 rfl rfl 3 (by decide) (hts _ wB43) (fun _ h9 => h9) rfl dX3_become_35 ?_
  obtain ⟨r38, h38r, hf⟩ := o_bs hf
  refine k_gov (va_runSN (As := [.ref (q 10), .ref (q 3)]) (rest := []) ⟨hx, hb, hml, hown, hts⟩ (zX5_copy l D cy sa (WKK q cy (sR (sR (sI u 2 (gI u 12)) 1 r8) 2 r27) ++ rest) H.size 10 (q 10) 7 (gR u 13) 3 (q 3) 7 (gR u 3)  r38 rfl rfl (by decide) h38r) ⟨va_cnB 2 hts (gB_K wB583) rfl rfl rfl (hE.2.1.1 _ (List.mem_of_getElem? (i := 12) rfl)) (hts _ wB2) (by decide +kernel) ⟨Nat.le_of_ble_eq_true rfl, Nat.le_of_ble_eq_true rfl⟩, hts _ wB582, trivial⟩ ⟨kP.blind, k_pre hP hD hS hE hA⟩ rfl rfl hl.1 rfl (lv_room (Nat.le_of_ble_eq_true rfl)) dX3_become_38 ⟨Nat.zero_le _, Nat.zero_le _⟩) hD hS hA (fun H locs hP hD hS => ?_)
  have hQ : ∀ (xb : KS) (x0 : Int32) (x1 : (Nat → Int32)) (x2 : (Nat → Int32)) (xn : (Nat → Int32)), (WKK q cy (sR (sR (sI xb 2 x0) 1 x1) 2 x2) ++ rest).set 3 (q 3, .inl (cy 0, 7, .inl xn)) = WKK q cy (sR (sR (sR (sI xb 2 x0) 1 x1) 2 x2) 3 xn) ++ rest := fun _ _ _ _ _ => rfl
  have hP : va_P D vwCl (WKK q cy (sR (sR (sR (sI u 2 (gI u 12)) 1 r8) 2 r27) 3 r38) ++ rest) H := k_wP (hQ u (gI u 12) r8 r27 r38) hP
  have hD : va_D A (WKK q cy (sR (sR (sR (sI u 2 (gI u 12)) 1 r8) 2 r27) 3 r38) ++ rest) := k_wD (hQ u (gI u 12) r8 r27 r38) hD
  clear hQ
  refine lv_aload_n hx hb dX3_become_41 rfl (lv_at hl 1 rfl) ?_
  refine va_get (ci := 3) (v := .ref (q 11)) (C := RX3) (T := TX3) (N := 9) hx hb hts inlX3 hown hE.1 hP 7 rfl rfl 4 (by decide) (hts _ wB44) (fun _ h9 => h9) rfl dX3_become_42 ?_
  refine lv_aload_n hx hb dX3_become_45 rfl (lv_at hl 0 rfl) ?_
  refine va_get (ci := 3) (v := .ref (q 4)) (C := RX3) (T := TX3) (N := 9) hx hb hts inlX3 hown hE.1 hP 0 rfl rfl 4 (by decide) (hts _ wB44) (fun _ h9 => h9) rfl dX3_become_46 ?_
  obtain ⟨r49, h49r, hf⟩ := o_bs hf
  refine k_gov (va_runSN (As := [.ref (q 11), .ref (q 4)]) (rest := []) ⟨hx, hb, hml, hown, hts⟩ (zX5_copy l D cy sa (WKK q cy (sR (sR (sR (sI u 2 (gI u 12)) 1 r8) 2 r27) 3 r38) ++ rest) H.size 11 (q 11) 4 (gR u 14) 4 (q 4) 4 (gR u 4)  r49 rfl rfl (by decide) h49r) ⟨va_cnB 2 hts (gB_K wB583) rfl rfl rfl (hE.2.1.1 _ (List.mem_of_getElem? (i := 12) rfl)) (hts _ wB2) (by decide +kernel) ⟨Nat.le_of_ble_eq_true rfl, Nat.le_of_ble_eq_true rfl⟩, hts _ wB582, trivial⟩ ⟨kP.blind, k_pre hP hD hS hE hA⟩ rfl rfl hl.1 rfl (lv_room (Nat.le_of_ble_eq_true rfl)) dX3_become_49 ⟨Nat.zero_le _, Nat.zero_le _⟩) hD hS hA (fun H locs hP hD hS => ?_)
  have hQ : ∀ (xb : KS) (x0 : Int32) (x1 : (Nat → Int32)) (x2 : (Nat → Int32)) (x3 : (Nat → Int32)) (xn : (Nat → Int32)), (WKK q cy (sR (sR (sR (sI xb 2 x0) 1 x1) 2 x2) 3 x3) ++ rest).set 4 (q 4, .inl (cy 0, 4, .inl xn)) = WKK q cy (sR (sR (sR (sR (sI xb 2 x0) 1 x1) 2 x2) 3 x3) 4 xn) ++ rest := fun _ _ _ _ _ _ => rfl
  have hP : va_P D vwCl (WKK q cy (sR (sR (sR (sR (sI u 2 (gI u 12)) 1 r8) 2 r27) 3 r38) 4 r49) ++ rest) H := k_wP (hQ u (gI u 12) r8 r27 r38 r49) hP
  have hD : va_D A (WKK q cy (sR (sR (sR (sR (sI u 2 (gI u 12)) 1 r8) 2 r27) 3 r38) 4 r49) ++ rest) := k_wD (hQ u (gI u 12) r8 r27 r38 r49) hD
  clear hQ
  refine lv_aload_n hx hb dX3_become_52 rfl (lv_at hl 1 rfl) ?_
  refine va_get (ci := 3) (v := .ref (q 12)) (C := RX3) (T := TX3) (N := 9) hx hb hts inlX3 hown hE.1 hP 7 rfl rfl 5 (by decide) (hts _ wB45) (fun _ h9 => h9) rfl dX3_become_53 ?_
  refine lv_aload_n hx hb dX3_become_56 rfl (lv_at hl 0 rfl) ?_
  refine va_get (ci := 3) (v := .ref (q 5)) (C := RX3) (T := TX3) (N := 9) hx hb hts inlX3 hown hE.1 hP 0 rfl rfl 5 (by decide) (hts _ wB45) (fun _ h9 => h9) rfl dX3_become_57 ?_
  obtain ⟨r60, h60r, hf⟩ := o_bs hf
  refine k_gov (va_runSN (As := [.ref (q 12), .ref (q 5)]) (rest := []) ⟨hx, hb, hml, hown, hts⟩ (zX5_copy l D cy sa (WKK q cy (sR (sR (sR (sR (sI u 2 (gI u 12)) 1 r8) 2 r27) 3 r38) 4 r49) ++ rest) H.size 12 (q 12) 32 (gR u 15) 5 (q 5) 32 (gR u 5)  r60 rfl rfl (by decide) h60r) ⟨va_cnB 2 hts (gB_K wB583) rfl rfl rfl (hE.2.1.1 _ (List.mem_of_getElem? (i := 12) rfl)) (hts _ wB2) (by decide +kernel) ⟨Nat.le_of_ble_eq_true rfl, Nat.le_of_ble_eq_true rfl⟩, hts _ wB582, trivial⟩ ⟨kP.blind, k_pre hP hD hS hE hA⟩ rfl rfl hl.1 rfl (lv_room (Nat.le_of_ble_eq_true rfl)) dX3_become_60 ⟨Nat.zero_le _, Nat.zero_le _⟩) hD hS hA (fun H locs hP hD hS => ?_)
  have hQ : ∀ (xb : KS) (x0 : Int32) (x1 : (Nat → Int32)) (x2 : (Nat → Int32)) (x3 : (Nat → Int32)) (x4 : (Nat → Int32)) (xn : (Nat → Int32)), (WKK q cy (sR (sR (sR (sR (sI xb 2 x0) 1 x1) 2 x2) 3 x3) 4 x4) ++ rest).set 5 (q 5, .inl (cy 0, 32, .inl xn)) = WKK q cy (sR (sR (sR (sR (sR (sI xb 2 x0) 1 x1) 2 x2) 3 x3) 4 x4) 5 xn) ++ rest := fun _ _ _ _ _ _ _ => rfl
  have hP : va_P D vwCl (WKK q cy (sR (sR (sR (sR (sR (sI u 2 (gI u 12)) 1 r8) 2 r27) 3 r38) 4 r49) 5 r60) ++ rest) H := k_wP (hQ u (gI u 12) r8 r27 r38 r49 r60) hP
  have hD : va_D A (WKK q cy (sR (sR (sR (sR (sR (sI u 2 (gI u 12)) 1 r8) 2 r27) 3 r38) 4 r49) 5 r60) ++ rest) := k_wD (hQ u (gI u 12) r8 r27 r38 r49 r60) hD
  clear hQ
  refine lv_aload_n hx hb dX3_become_63 rfl (lv_at hl 0 rfl) ?_
  refine lv_aload_n hx hb dX3_become_64 rfl (lv_at hl 1 rfl) ?_
  refine va_get (ci := 3) (v := .int (gI u 13)) (C := RX3) (T := TX3) (N := 9) hx hb hts inlX3 hown hE.1 hP 7 rfl rfl 6 (by decide) (hts _ wB580) (fun _ h9 => h9) rfl dX3_become_65 ?_
  refine va_put (ci := 3) (v := .int (gI u 13)) (ty := .int) (C := RX3) (T := TX3) (N := 9) hx hb hts inlX3 tyX3 tyX3_ok nmX3 hown hE.1 hP hD hS 0 rfl rfl 6 (by decide) (hts _ wB580) (fun _ h9 => h9) rfl (by decide +kernel) rfl rfl (Nat.le_of_ble_eq_true rfl) dX3_become_68 (fun H locs hP hD hS => ?_)
  have hQ : ∀ (xb : KS) (x0 : Int32) (x1 : (Nat → Int32)) (x2 : (Nat → Int32)) (x3 : (Nat → Int32)) (x4 : (Nat → Int32)) (x5 : (Nat → Int32)) (xn : Int32), (WKK q cy (sR (sR (sR (sR (sR (sI xb 2 x0) 1 x1) 2 x2) 3 x3) 4 x4) 5 x5) ++ rest).set 0 (q 0, .inr (3, [.ref (q 1), .int (gI (sR (sR (sR (sR (sR (sI xb 2 x0) 1 x1) 2 x2) 3 x3) 4 x4) 5 x5) 2), .ref (q 2), .ref (q 3), .ref (q 4), .ref (q 5), .int (gI (sR (sR (sR (sR (sR (sI xb 2 x0) 1 x1) 2 x2) 3 x3) 4 x4) 5 x5) 3), .ref (q 6), .int (gI (sR (sR (sR (sR (sR (sI xb 2 x0) 1 x1) 2 x2) 3 x3) 4 x4) 5 x5) 4)].set 6 (.int xn))) = WKK q cy (sR (sR (sR (sR (sR (sI (sI xb 2 x0) 3 xn) 1 x1) 2 x2) 3 x3) 4 x4) 5 x5) ++ rest := fun _ _ _ _ _ _ _ _ => rfl
  have hP : va_P D vwCl (WKK q cy (sR (sR (sR (sR (sR (sI (sI u 2 (gI u 12)) 3 (gI u 13)) 1 r8) 2 r27) 3 r38) 4 r49) 5 r60) ++ rest) H := k_wP (hQ u (gI u 12) r8 r27 r38 r49 r60 (gI u 13)) hP
  have hD : va_D A (WKK q cy (sR (sR (sR (sR (sR (sI (sI u 2 (gI u 12)) 3 (gI u 13)) 1 r8) 2 r27) 3 r38) 4 r49) 5 r60) ++ rest) := k_wD (hQ u (gI u 12) r8 r27 r38 r49 r60 (gI u 13)) hD
  clear hQ
  refine lv_aload_n hx hb dX3_become_71 rfl (lv_at hl 1 rfl) ?_
  refine va_get (ci := 3) (v := .ref (q 13)) (C := RX3) (T := TX3) (N := 9) hx hb hts inlX3 hown hE.1 hP 7 rfl rfl 7 (by decide) (hts _ wB46) (fun _ h9 => h9) rfl dX3_become_72 ?_
  refine lv_aload_n hx hb dX3_become_75 rfl (lv_at hl 0 rfl) ?_
  refine va_get (ci := 3) (v := .ref (q 6)) (C := RX3) (T := TX3) (N := 9) hx hb hts inlX3 hown hE.1 hP 0 rfl rfl 7 (by decide) (hts _ wB46) (fun _ h9 => h9) rfl dX3_become_76 ?_
  obtain ⟨r79, h79r, hf⟩ := o_bs hf
  refine k_gov (va_runSN (As := [.ref (q 13), .ref (q 6)]) (rest := []) ⟨hx, hb, hml, hown, hts⟩ (zX5_copy l D cy sa (WKK q cy (sR (sR (sR (sR (sR (sI (sI u 2 (gI u 12)) 3 (gI u 13)) 1 r8) 2 r27) 3 r38) 4 r49) 5 r60) ++ rest) H.size 13 (q 13) 18 (gR u 16) 6 (q 6) 18 (gR u 6)  r79 rfl rfl (by decide) h79r) ⟨va_cnB 2 hts (gB_K wB583) rfl rfl rfl (hE.2.1.1 _ (List.mem_of_getElem? (i := 12) rfl)) (hts _ wB2) (by decide +kernel) ⟨Nat.le_of_ble_eq_true rfl, Nat.le_of_ble_eq_true rfl⟩, hts _ wB582, trivial⟩ ⟨kP.blind, k_pre hP hD hS hE hA⟩ rfl rfl hl.1 rfl (lv_room (Nat.le_of_ble_eq_true rfl)) dX3_become_79 ⟨Nat.zero_le _, Nat.zero_le _⟩) hD hS hA (fun H locs hP hD hS => ?_)
  have hQ : ∀ (xb : KS) (x0 : Int32) (x1 : Int32) (x2 : (Nat → Int32)) (x3 : (Nat → Int32)) (x4 : (Nat → Int32)) (x5 : (Nat → Int32)) (x6 : (Nat → Int32)) (xn : (Nat → Int32)), (WKK q cy (sR (sR (sR (sR (sR (sI (sI xb 2 x0) 3 x1) 1 x2) 2 x3) 3 x4) 4 x5) 5 x6) ++ rest).set 6 (q 6, .inl (cy 0, 18, .inl xn)) = WKK q cy (sR (sR (sR (sR (sR (sR (sI (sI xb 2 x0) 3 x1) 1 x2) 2 x3) 3 x4) 4 x5) 5 x6) 6 xn) ++ rest := fun _ _ _ _ _ _ _ _ _ => rfl
  have hP : va_P D vwCl (WKK q cy (sR (sR (sR (sR (sR (sR (sI (sI u 2 (gI u 12)) 3 (gI u 13)) 1 r8) 2 r27) 3 r38) 4 r49) 5 r60) 6 r79) ++ rest) H := k_wP (hQ u (gI u 12) (gI u 13) r8 r27 r38 r49 r60 r79) hP
  have hD : va_D A (WKK q cy (sR (sR (sR (sR (sR (sR (sI (sI u 2 (gI u 12)) 3 (gI u 13)) 1 r8) 2 r27) 3 r38) 4 r49) 5 r60) 6 r79) ++ rest) := k_wD (hQ u (gI u 12) (gI u 13) r8 r27 r38 r49 r60 r79) hD
  clear hQ
  refine lv_aload_n hx hb dX3_become_82 rfl (lv_at hl 0 rfl) ?_
  refine lv_aload_n hx hb dX3_become_83 rfl (lv_at hl 1 rfl) ?_
  refine va_get (ci := 3) (v := .int (gI u 14)) (C := RX3) (T := TX3) (N := 9) hx hb hts inlX3 hown hE.1 hP 7 rfl rfl 8 (by decide) (hts _ wB581) (fun _ h9 => h9) rfl dX3_become_84 ?_
  refine va_put (ci := 3) (v := .int (gI u 14)) (ty := .int) (C := RX3) (T := TX3) (N := 9) hx hb hts inlX3 tyX3 tyX3_ok nmX3 hown hE.1 hP hD hS 0 rfl rfl 8 (by decide) (hts _ wB581) (fun _ h9 => h9) rfl (by decide +kernel) rfl rfl (Nat.le_of_ble_eq_true rfl) dX3_become_87 (fun H locs hP hD hS => ?_)
  have hQ : ∀ (xb : KS) (x0 : Int32) (x1 : Int32) (x2 : (Nat → Int32)) (x3 : (Nat → Int32)) (x4 : (Nat → Int32)) (x5 : (Nat → Int32)) (x6 : (Nat → Int32)) (x7 : (Nat → Int32)) (xn : Int32), (WKK q cy (sR (sR (sR (sR (sR (sR (sI (sI xb 2 x0) 3 x1) 1 x2) 2 x3) 3 x4) 4 x5) 5 x6) 6 x7) ++ rest).set 0 (q 0, .inr (3, [.ref (q 1), .int (gI (sR (sR (sR (sR (sR (sR (sI (sI xb 2 x0) 3 x1) 1 x2) 2 x3) 3 x4) 4 x5) 5 x6) 6 x7) 2), .ref (q 2), .ref (q 3), .ref (q 4), .ref (q 5), .int (gI (sR (sR (sR (sR (sR (sR (sI (sI xb 2 x0) 3 x1) 1 x2) 2 x3) 3 x4) 4 x5) 5 x6) 6 x7) 3), .ref (q 6), .int (gI (sR (sR (sR (sR (sR (sR (sI (sI xb 2 x0) 3 x1) 1 x2) 2 x3) 3 x4) 4 x5) 5 x6) 6 x7) 4)].set 8 (.int xn))) = WKK q cy (sR (sR (sR (sR (sR (sR (sI (sI (sI xb 2 x0) 3 x1) 4 xn) 1 x2) 2 x3) 3 x4) 4 x5) 5 x6) 6 x7) ++ rest := fun _ _ _ _ _ _ _ _ _ _ => rfl
  have hP : va_P D vwCl (WKK q cy (sR (sR (sR (sR (sR (sR (sI (sI (sI u 2 (gI u 12)) 3 (gI u 13)) 4 (gI u 14)) 1 r8) 2 r27) 3 r38) 4 r49) 5 r60) 6 r79) ++ rest) H := k_wP (hQ u (gI u 12) (gI u 13) r8 r27 r38 r49 r60 r79 (gI u 14)) hP
  have hD : va_D A (WKK q cy (sR (sR (sR (sR (sR (sR (sI (sI (sI u 2 (gI u 12)) 3 (gI u 13)) 4 (gI u 14)) 1 r8) 2 r27) 3 r38) 4 r49) 5 r60) 6 r79) ++ rest) := k_wD (hQ u (gI u 12) (gI u 13) r8 r27 r38 r49 r60 r79 (gI u 14)) hD
  clear hQ
  obtain rfl := o_ret hf
  exact k_vret hx hb hr hP hD hS (Nat.zero_le _) (Nat.zero_le _) hlocks dX3_become_90
noncomputable def mX3_faultCount_s13 (u : KS) (c3 : Int32) (s13 : Int32 × Int32) : Option ((Int32) ⊕ (Int32 × Int32)) :=
  if c3 ≤ s13.2 then
  (some (.inl s13.1))
  else
  (gd (inb s13.2 4) (if ((gR u 4) (s13.2.toNatClampNeg)) = (-1) then
  (some (.inr (s13.1, (s13.2 + 1))))
  else
  (some (.inr ((s13.1 + 1), (s13.2 + 1))))))
noncomputable def mX3_faultCount (u : KS) : Option (Int32) :=
  (lpF (mX3_faultCount_s13 u 4) (0, 0)).bind fun e13 =>
  some e13
abbrev rmX3_faultCount : Room := { frames := 0, cells := 0, slots := 0, locals := 0 }
set_option maxRecDepth 100000 in
set_option maxHeartbeats 4000000 in
theorem zX3_faultCount (l : Launch) (D : va_G) (cy : Nat → ClassId) (sa : Nat → Nat) (q : Nat → Nat) (rest : va_W) (sz : Nat) (u : KS) (res : Int32) (hf : mX3_faultCount u = some res) : kMi l yX3_faultCount (wsK yX3_faultCount cX3_faultCount 6 (some .int)) rmX3_faultCount D cy sa (WX q cy u ++ rest) sz [.ref (q 3)] res (WX q cy u ++ rest) 0 0 := by
  refine kM_of (Qc := fun A => kQi D A res (WX q cy u ++ rest)) (cc := cX3_faultCount) (maxL := 6) (ret := (some .int)) (by decide) (Nat.le_of_ble_eq_true rfl) ?_
  intro p e s m below meth c A hx hb hml hr hts hown hlocks hin hA hP hD hS hE hsz ls hl
  have hown : s.vm.findClass RX3 = some m.cls := hown
  obtain ⟨H, hH0⟩ : ∃ H, H = s.heap := ⟨_, rfl⟩
  obtain ⟨locs, hlocs0⟩ : ∃ locs : List Loc, locs = [] := ⟨_, rfl⟩
  have hP : va_P D vwCl (WX q cy u ++ rest) H := by rw [hH0]; exact hP
  have hS : va_S A s.heap H locs := by rw [hH0, hlocs0]; exact hS
  have hl : lv_has ls 6 [(0, .ref (q 3))] := hl
  suffices hgoal : W p l e rmX3_faultCount s m ([.ref (q 3)] : List Value).toArray below meth c H locs 0 0 (MQ below (kQi D A res (WX q cy u ++ rest)) ([.ref (q 3)] : List Value).toArray s 0 0 A) (F0 m 0 ls []) by rw [hH0, hlocs0] at hgoal; exact hgoal
  clear hH0 hlocs0
  unfold mX3_faultCount at hf
  refine lv_iconst (v := 0) hx hb dX3_faultCount_0 (by decide) ?_
  refine lv_istore_n (lv' := [(1, .int 0), (0, .ref (q 3))]) hx hb dX3_faultCount_1 rfl hl (by decide) rfl (fun ls hl => ?_)
  refine lv_aload_n hx hb dX3_faultCount_2 rfl (lv_at hl 1 rfl) ?_
  refine va_get (ci := 3) (v := .ref (q 7)) (C := RX3) (T := TX3) (N := 9) hx hb hts inlX3 hown hE.1 hP 3 rfl rfl 4 (by decide) (hts _ wB44) (fun _ h9 => h9) rfl dX3_faultCount_3 ?_
  refine lv_astore_n (lv' := [(2, .ref (q 7)), (1, .int 0), (0, .ref (q 3))]) hx hb dX3_faultCount_6 rfl hl (by decide) rfl (fun ls hl => ?_)
  refine lv_aload_n hx hb dX3_faultCount_7 rfl (lv_at hl 0 rfl) ?_
  refine va_alen (v := 4) hx hb hE.1 hP 7 0 rfl rfl rfl dX3_faultCount_8 ?_
  refine lv_istore_n (lv' := [(3, .int 4), (2, .ref (q 7)), (1, .int 0), (0, .ref (q 3))]) hx hb dX3_faultCount_9 rfl hl (by decide) rfl (fun ls hl => ?_)
  refine lv_iconst (v := 0) hx hb dX3_faultCount_10 (by decide) ?_
  refine lv_istore (lv' := [(4, .int 0), (3, .int 4), (2, .ref (q 7)), (1, .int 0), (0, .ref (q 3))]) hx hb dX3_faultCount_11 hl (by decide) rfl (fun ls hl => ?_)
  have L13 : ∀ (n13v : Nat) (s13 : Int32 × Int32) (e13 : Int32), lpO (mX3_faultCount_s13 u 4) n13v s13 = some e13 → ∀ (H : Heap) (locs : List Loc) (ls : Array Slot), va_P D vwCl (WX q cy u ++ rest) H → va_D A (WX q cy u ++ rest) → va_S A s.heap H locs → lv_has ls 6 [(1, .int s13.1), (2, .ref (q 7)), (3, .int 4), (4, .int s13.2)] → (∀ (H : Heap) (locs : List Loc) (ls : Array Slot), va_P D vwCl (WX q cy u ++ rest) H → va_D A (WX q cy u ++ rest) → va_S A s.heap H locs → lv_has ls 6 [(1, .int e13)] → W p l e rmX3_faultCount s m ([.ref (q 3)] : List Value).toArray below meth c H locs 0 0 (MQ below (kQi D A res (WX q cy u ++ rest)) ([.ref (q 3)] : List Value).toArray s 0 0 A) (F0 m 40 ls [])) → W p l e rmX3_faultCount s m ([.ref (q 3)] : List Value).toArray below meth c H locs 0 0 (MQ below (kQi D A res (WX q cy u ++ rest)) ([.ref (q 3)] : List Value).toArray s 0 0 A) (F0 m 13 ls []) := by
    intro n13v
    induction n13v with
    | zero => intro s13 e13 h; exact (lpO_z h).elim
    | succ n13v ih13 =>
      intro s13 e13 h13z H locs ls hP hD hS hl K13_0
      obtain ⟨x13, hf, h13z⟩ := lpO_s h13z
      unfold mX3_faultCount_s13 at hf
      refine lv_iload hx hb dX3_faultCount_13 (lv_at hl 3 rfl) ?_
      refine lv_iload_n hx hb dX3_faultCount_15 rfl (lv_at hl 2 rfl) ?_
      refine lv_icmp_ge (tgt := 40) hx hb dX3_faultCount_16 (by decide) (fun c16 => ?_) (fun c16 => ?_)
      · have hf := o_ip c16 hf
        obtain rfl := o_ret hf
        obtain rfl := lpK_l h13z
        exact K13_0 _ _ _ hP hD hS (lv_sub hl [0] rfl)
      · have hf := o_in c16 hf
        refine lv_aload_n hx hb dX3_faultCount_19 rfl (lv_at hl 1 rfl) ?_
        refine lv_iload hx hb dX3_faultCount_20 (lv_at hl 3 rfl) ?_
        obtain ⟨hg22, hf⟩ := gd_s hf
        refine va_iald (f := (gR u 4)) hx hb hE.1 hP 7 0 rfl rfl hg22 dX3_faultCount_22 ?_
        refine lv_istore (lv' := [(5, .int ((gR u 4) (s13.2.toNatClampNeg))), (1, .int s13.1), (2, .ref (q 7)), (3, .int 4), (4, .int s13.2)]) hx hb dX3_faultCount_23 hl (by decide) rfl (fun ls hl => ?_)
        refine lv_iload hx hb dX3_faultCount_25 (lv_at hl 0 rfl) ?_
        refine lv_iconst (v := (-1)) hx hb dX3_faultCount_27 (by decide) ?_
        refine lv_icmp_eq (tgt := 34) hx hb dX3_faultCount_28 (by decide) (fun c28 => ?_) (fun c28 => ?_)
        · have hf := o_ip c28 hf
          refine lv_iinc (v := (s13.2 + 1)) (lv' := [(4, .int (s13.2 + 1)), (5, .int ((gR u 4) (s13.2.toNatClampNeg))), (1, .int s13.1), (2, .ref (q 7)), (3, .int 4)]) hx hb dX3_faultCount_34 hl (k := 4) rfl (by rfl) (by decide) rfl (fun ls hl => ?_)
          refine lv_goto (tgt := 13) hx hb dX3_faultCount_37 (by decide) ?_
          obtain rfl := o_ret hf
          exact ih13 _ _ (lpK_r h13z) _ _ _ hP hD hS (lv_sub hl [2, 3, 4, 0] rfl) K13_0
        · have hf := o_in c28 hf
          refine lv_iinc (v := (s13.1 + 1)) (lv' := [(1, .int (s13.1 + 1)), (5, .int ((gR u 4) (s13.2.toNatClampNeg))), (2, .ref (q 7)), (3, .int 4), (4, .int s13.2)]) hx hb dX3_faultCount_31 hl (k := 1) rfl (by rfl) (by decide) rfl (fun ls hl => ?_)
          refine lv_iinc (v := (s13.2 + 1)) (lv' := [(4, .int (s13.2 + 1)), (1, .int (s13.1 + 1)), (5, .int ((gR u 4) (s13.2.toNatClampNeg))), (2, .ref (q 7)), (3, .int 4)]) hx hb dX3_faultCount_34 hl (k := 4) rfl (by rfl) (by decide) rfl (fun ls hl => ?_)
          refine lv_goto (tgt := 13) hx hb dX3_faultCount_37 (by decide) ?_
          obtain rfl := o_ret hf
          exact ih13 _ _ (lpK_r h13z) _ _ _ hP hD hS (lv_sub hl [1, 3, 4, 0] rfl) K13_0
  obtain ⟨e13, h13q, hf⟩ := o_bs hf
  obtain ⟨n13v, h13q⟩ := lpF_ex h13q
  refine L13 n13v _ e13 h13q _ _ _ hP hD hS (lv_sub hl [3, 2, 1, 0] rfl) ?_
  intro H locs ls hP hD hS hl
  refine lv_iload_n hx hb dX3_faultCount_40 rfl (lv_at hl 0 rfl) ?_
  obtain rfl := o_ret hf
  exact k_iret hx hb hr hP hD hS (Nat.zero_le _) (Nat.zero_le _) hlocks dX3_faultCount_41
noncomputable def mX3_countOf (u : KS) (a1 : Int32) : Option (Int32) :=
  if a1 = 0 then
  (some (gI u 2))
  else if a1 = 1 then
  (some (gI u 3))
  else if a1 = 2 then
  (some (gI u 4))
  else 
  ((mX3_faultCount u).bind fun r44 =>
  some r44)
abbrev rmX3_countOf : Room := { frames := 1, cells := 0, slots := 0, locals := 25 }
set_option maxRecDepth 100000 in
set_option maxHeartbeats 4000000 in
theorem zX3_countOf (l : Launch) (D : va_G) (cy : Nat → ClassId) (sa : Nat → Nat) (q : Nat → Nat) (rest : va_W) (sz : Nat) (u : KS) (a1 : Int32) (res : Int32) (hf : mX3_countOf u a1 = some res) : kMi l yX3_countOf (wsK yX3_countOf cX3_countOf 2 (some .int)) rmX3_countOf D cy sa (WX q cy u ++ rest) sz [.ref (q 3), .int a1] res (WX q cy u ++ rest) 0 0 := by
  refine kM_of (Qc := fun A => kQi D A res (WX q cy u ++ rest)) (cc := cX3_countOf) (maxL := 2) (ret := (some .int)) (by decide) (Nat.le_of_ble_eq_true rfl) ?_
  intro p e s m below meth c A hx hb hml hr hts hown hlocks hin hA hP hD hS hE hsz ls hl
  have hown : s.vm.findClass RX3 = some m.cls := hown
  obtain ⟨H, hH0⟩ : ∃ H, H = s.heap := ⟨_, rfl⟩
  obtain ⟨locs, hlocs0⟩ : ∃ locs : List Loc, locs = [] := ⟨_, rfl⟩
  have hP : va_P D vwCl (WX q cy u ++ rest) H := by rw [hH0]; exact hP
  have hS : va_S A s.heap H locs := by rw [hH0, hlocs0]; exact hS
  have hl : lv_has ls 2 [(0, .ref (q 3)), (1, .int a1)] := hl
  suffices hgoal : W p l e rmX3_countOf s m ([.ref (q 3), .int a1] : List Value).toArray below meth c H locs 0 0 (MQ below (kQi D A res (WX q cy u ++ rest)) ([.ref (q 3), .int a1] : List Value).toArray s 0 0 A) (F0 m 0 ls []) by rw [hH0, hlocs0] at hgoal; exact hgoal
  clear hH0 hlocs0
  unfold mX3_countOf at hf
  refine lv_iload_n hx hb dX3_countOf_0 rfl (lv_at hl 1 rfl) ?_
  by_cases c1_0 : a1 = 0
  · have hf := o_ip c1_0 hf
    refine lv_tableIn (tgt := 28) hx hb dX3_countOf_1 (by rw [c1_0]; decide) (by rw [c1_0]; decide) (off := 27) (by rw [c1_0]; decide) (by decide) ?_
    refine lv_aload_n hx hb dX3_countOf_28 rfl (lv_at hl 0 rfl) ?_
    refine va_get (ci := 3) (v := .int (gI u 2)) (C := RX3) (T := TX3) (N := 9) hx hb hts inlX3 hown hE.1 hP 3 rfl rfl 1 (by decide) (hts _ wB579) (fun _ h9 => h9) rfl dX3_countOf_29 ?_
    obtain rfl := o_ret hf
    exact k_iret hx hb hr hP hD hS (Nat.zero_le _) (Nat.zero_le _) hlocks dX3_countOf_32
  have hf := o_in c1_0 hf
  by_cases c1_1 : a1 = 1
  · have hf := o_ip c1_1 hf
    refine lv_tableIn (tgt := 33) hx hb dX3_countOf_1 (by rw [c1_1]; decide) (by rw [c1_1]; decide) (off := 32) (by rw [c1_1]; decide) (by decide) ?_
    refine lv_aload_n hx hb dX3_countOf_33 rfl (lv_at hl 0 rfl) ?_
    refine va_get (ci := 3) (v := .int (gI u 3)) (C := RX3) (T := TX3) (N := 9) hx hb hts inlX3 hown hE.1 hP 3 rfl rfl 6 (by decide) (hts _ wB580) (fun _ h9 => h9) rfl dX3_countOf_34 ?_
    obtain rfl := o_ret hf
    exact k_iret hx hb hr hP hD hS (Nat.zero_le _) (Nat.zero_le _) hlocks dX3_countOf_37
  have hf := o_in c1_1 hf
  by_cases c1_2 : a1 = 2
  · have hf := o_ip c1_2 hf
    refine lv_tableIn (tgt := 38) hx hb dX3_countOf_1 (by rw [c1_2]; decide) (by rw [c1_2]; decide) (off := 37) (by rw [c1_2]; decide) (by decide) ?_
    refine lv_aload_n hx hb dX3_countOf_38 rfl (lv_at hl 0 rfl) ?_
    refine va_get (ci := 3) (v := .int (gI u 4)) (C := RX3) (T := TX3) (N := 9) hx hb hts inlX3 hown hE.1 hP 3 rfl rfl 8 (by decide) (hts _ wB581) (fun _ h9 => h9) rfl dX3_countOf_39 ?_
    obtain rfl := o_ret hf
    exact k_iret hx hb hr hP hD hS (Nat.zero_le _) (Nat.zero_le _) hlocks dX3_countOf_42
  have hf := o_in c1_2 hf
  refine lv_tableOut (tgt := 43) hx hb dX3_countOf_1 (by have t0 := lv_neT (a := 0) c1_0 rfl; have t1 := lv_neT (a := 1) c1_1 rfl; have t2 := lv_neT (a := 2) c1_2 rfl; omega) (by decide) ?_
  refine lv_aload_n hx hb dX3_countOf_43 rfl (lv_at hl 0 rfl) ?_
  obtain ⟨r44, h44r, hf⟩ := o_bs hf
  refine k_goi (va_runV (As := []) (rest := []) ⟨hx, hb, hml, hown, hts⟩ (zX3_faultCount l D cy sa q rest H.size u  r44 h44r) (cwV 0 hts (gB_V wB596 wB597 wB598 wB15 wB599) rfl rfl rfl (by decide +kernel) ⟨Nat.le_of_ble_eq_true rfl, Nat.le_of_ble_eq_true rfl⟩) ⟨kP.blind, k_recv hE hP (ci := 3) (q0 := 3) rfl rfl, k_pre hP hD hS hE hA⟩ rfl rfl hl.1 rfl (lv_room (Nat.le_of_ble_eq_true rfl)) dX3_countOf_44 ⟨Nat.zero_le _, Nat.zero_le _⟩) hD hS hA (fun H locs hP hD hS => ?_)
  obtain rfl := o_ret hf
  exact k_iret hx hb hr hP hD hS (Nat.zero_le _) (Nat.zero_le _) hlocks dX3_countOf_47
noncomputable def mX4_worth (u : KS) (a1 : Int32) (a2 : Int32) (a3 : Int32) : Option (Int64) :=
  (mX5_at_ 5 (gA u 1) (a1 + 1)).bind fun r21 =>
  (mX5_at_ 5 (gA u 1) a1).bind fun r36 =>
  some ((((((a3 * a2) * 20).toInt64) * (gL u 1)) + ((a3.toInt64) * r21)) + (((20 - a3).toInt64) * r36))
abbrev rmX4_worth : Room := { frames := 1, cells := 0, slots := 0, locals := 21 }
set_option maxRecDepth 100000 in
set_option maxHeartbeats 4000000 in
theorem zX4_worth (l : Launch) (D : va_G) (cy : Nat → ClassId) (sa : Nat → Nat) (q : Nat → Nat) (rest : va_W) (sz : Nat) (u : KS) (a1 : Int32) (a2 : Int32) (a3 : Int32) (res : Int64) (hf : mX4_worth u a1 a2 a3 = some res) : kMl l yX4_worth (wsK yX4_worth cX4_worth 4 (some .long)) rmX4_worth D cy sa (WX q cy u ++ rest) sz [.ref (q 19), .int a1, .int a2, .int a3] res (WX q cy u ++ rest) 0 0 := by
  refine kM_of (Qc := fun A => kQl D A res (WX q cy u ++ rest)) (cc := cX4_worth) (maxL := 4) (ret := (some .long)) (by decide) (Nat.le_of_ble_eq_true rfl) ?_
  intro p e s m below meth c A hx hb hml hr hts hown hlocks hin hA hP hD hS hE hsz ls hl
  have hown : s.vm.findClass RX4 = some m.cls := hown
  obtain ⟨H, hH0⟩ : ∃ H, H = s.heap := ⟨_, rfl⟩
  obtain ⟨locs, hlocs0⟩ : ∃ locs : List Loc, locs = [] := ⟨_, rfl⟩
  have hP : va_P D vwCl (WX q cy u ++ rest) H := by rw [hH0]; exact hP
  have hS : va_S A s.heap H locs := by rw [hH0, hlocs0]; exact hS
  have hl : lv_has ls 4 [(0, .ref (q 19)), (1, .int a1), (2, .int a2), (3, .int a3)] := hl
  suffices hgoal : W p l e rmX4_worth s m ([.ref (q 19), .int a1, .int a2, .int a3] : List Value).toArray below meth c H locs 0 0 (MQ below (kQl D A res (WX q cy u ++ rest)) ([.ref (q 19), .int a1, .int a2, .int a3] : List Value).toArray s 0 0 A) (F0 m 0 ls []) by rw [hH0, hlocs0] at hgoal; exact hgoal
  clear hH0 hlocs0
  unfold mX4_worth at hf
  refine lv_iload_n hx hb dX4_worth_0 rfl (lv_at hl 3 rfl) ?_
  refine lv_iload_n hx hb dX4_worth_1 rfl (lv_at hl 2 rfl) ?_
  refine lv_imul hx hb dX4_worth_2 ?_
  refine lv_bipush (v := 20) hx hb dX4_worth_3 (by decide) ?_
  refine lv_imul hx hb dX4_worth_5 ?_
  refine lv_i2l (v := (((a3 * a2) * 20).toInt64)) hx hb dX4_worth_6 rfl ?_
  refine lv_aload_n hx hb dX4_worth_7 rfl (lv_at hl 0 rfl) ?_
  refine va_get (ci := 4) (v := .long (gL u 1)) (C := RX4) (T := TX4) (N := 3) hx hb hts inlX4 hown hE.1 hP 19 rfl rfl 1 (by decide) (hts _ wB550) (fun _ h9 => h9) rfl dX4_worth_8 ?_
  refine lv_lmul hx hb dX4_worth_11 ?_
  refine lv_iload_n hx hb dX4_worth_12 rfl (lv_at hl 3 rfl) ?_
  refine lv_i2l (v := (a3.toInt64)) hx hb dX4_worth_13 rfl ?_
  refine lv_aload_n hx hb dX4_worth_14 rfl (lv_at hl 0 rfl) ?_
  refine va_get (ci := 4) (v := .ref (q 20)) (C := RX4) (T := TX4) (N := 3) hx hb hts inlX4 hown hE.1 hP 19 rfl rfl 0 (by decide) (hts _ wB65) (fun _ h9 => h9) rfl dX4_worth_15 ?_
  refine lv_iload_n hx hb dX4_worth_18 rfl (lv_at hl 1 rfl) ?_
  refine lv_iconst (v := 1) hx hb dX4_worth_19 (by decide) ?_
  refine lv_iadd hx hb dX4_worth_20 ?_
  obtain ⟨r21, h21r, hf⟩ := o_bs hf
  refine k_gol (va_runSN (As := [.ref (q 20), .int (a1 + 1)]) (rest := [.long (a3.toInt64), .long ((((a3 * a2) * 20).toInt64) * (gL u 1))]) ⟨hx, hb, hml, hown, hts⟩ (zX5_at_ l D cy sa (WX q cy u ++ rest) H.size 20 (q 20) 5 (gA u 1) (a1 + 1) r21 rfl h21r) ⟨va_cnB 2 hts (gB_K wB414) rfl rfl rfl (hE.2.1.1 _ (List.mem_of_getElem? (i := 14) rfl)) (hts _ wB2) (by decide +kernel) ⟨Nat.le_of_ble_eq_true rfl, Nat.le_of_ble_eq_true rfl⟩, hts _ wB413, trivial⟩ ⟨kP.blind, k_pre hP hD hS hE hA⟩ rfl rfl hl.1 rfl (lv_room (Nat.le_of_ble_eq_true rfl)) dX4_worth_21 ⟨Nat.zero_le _, Nat.zero_le _⟩) hD hS hA (fun H locs hP hD hS => ?_)
  refine lv_lmul hx hb dX4_worth_24 ?_
  refine lv_ladd hx hb dX4_worth_25 ?_
  refine lv_bipush (v := 20) hx hb dX4_worth_26 (by decide) ?_
  refine lv_iload_n hx hb dX4_worth_28 rfl (lv_at hl 3 rfl) ?_
  refine lv_isub hx hb dX4_worth_29 ?_
  refine lv_i2l (v := ((20 - a3).toInt64)) hx hb dX4_worth_30 rfl ?_
  refine lv_aload_n hx hb dX4_worth_31 rfl (lv_at hl 0 rfl) ?_
  refine va_get (ci := 4) (v := .ref (q 20)) (C := RX4) (T := TX4) (N := 3) hx hb hts inlX4 hown hE.1 hP 19 rfl rfl 0 (by decide) (hts _ wB65) (fun _ h9 => h9) rfl dX4_worth_32 ?_
  refine lv_iload_n hx hb dX4_worth_35 rfl (lv_at hl 1 rfl) ?_
  obtain ⟨r36, h36r, hf⟩ := o_bs hf
  refine k_gol (va_runSN (As := [.ref (q 20), .int a1]) (rest := [.long ((20 - a3).toInt64), .long (((((a3 * a2) * 20).toInt64) * (gL u 1)) + ((a3.toInt64) * r21))]) ⟨hx, hb, hml, hown, hts⟩ (zX5_at_ l D cy sa (WX q cy u ++ rest) H.size 20 (q 20) 5 (gA u 1) a1 r36 rfl h36r) ⟨va_cnB 2 hts (gB_K wB414) rfl rfl rfl (hE.2.1.1 _ (List.mem_of_getElem? (i := 14) rfl)) (hts _ wB2) (by decide +kernel) ⟨Nat.le_of_ble_eq_true rfl, Nat.le_of_ble_eq_true rfl⟩, hts _ wB413, trivial⟩ ⟨kP.blind, k_pre hP hD hS hE hA⟩ rfl rfl hl.1 rfl (lv_room (Nat.le_of_ble_eq_true rfl)) dX4_worth_36 ⟨Nat.zero_le _, Nat.zero_le _⟩) hD hS hA (fun H locs hP hD hS => ?_)
  refine lv_lmul hx hb dX4_worth_39 ?_
  refine lv_ladd hx hb dX4_worth_40 ?_
  obtain rfl := o_ret hf
  exact k_lret hx hb hr hP hD hS (Nat.zero_le _) (Nat.zero_le _) hlocks dX4_worth_41
noncomputable def mX4_bestLoad_s14 (u : KS) (c1 : Int32) (c2 : Int32) (s14 : Int32 × Int64 × Int32) : Option ((Int32) ⊕ (Int32 × Int64 × Int32)) :=
  if 9 < s14.2.2 then
  (some (.inl s14.1))
  else
  ((mX4_worth u c1 c2 s14.2.2).bind fun r26 =>
  if (lg_cmp r26 s14.2.1) ≤ 0 then
  (some (.inr (s14.1, s14.2.1, (s14.2.2 + 1))))
  else
  (some (.inr (s14.2.2, r26, (s14.2.2 + 1)))))
noncomputable def mX4_bestLoad (u : KS) (a1 : Int32) (a2 : Int32) : Option (Int32) :=
  (mX4_worth u a1 a2 0).bind fun r6 =>
  (lpF (mX4_bestLoad_s14 u a1 a2) (0, r6, 1)).bind fun e14 =>
  some e14
abbrev rmX4_bestLoad : Room := { frames := 2, cells := 0, slots := 0, locals := 44 }
set_option maxRecDepth 100000 in
set_option maxHeartbeats 4000000 in
theorem zX4_bestLoad (l : Launch) (D : va_G) (cy : Nat → ClassId) (sa : Nat → Nat) (q : Nat → Nat) (rest : va_W) (sz : Nat) (u : KS) (a1 : Int32) (a2 : Int32) (res : Int32) (hf : mX4_bestLoad u a1 a2 = some res) : kMi l yX4_bestLoad (wsK yX4_bestLoad cX4_bestLoad 9 (some .int)) rmX4_bestLoad D cy sa (WX q cy u ++ rest) sz [.ref (q 19), .int a1, .int a2] res (WX q cy u ++ rest) 0 0 := by
  refine kM_of (Qc := fun A => kQi D A res (WX q cy u ++ rest)) (cc := cX4_bestLoad) (maxL := 9) (ret := (some .int)) (by decide) (Nat.le_of_ble_eq_true rfl) ?_
  intro p e s m below meth c A hx hb hml hr hts hown hlocks hin hA hP hD hS hE hsz ls hl
  have hown : s.vm.findClass RX4 = some m.cls := hown
  obtain ⟨H, hH0⟩ : ∃ H, H = s.heap := ⟨_, rfl⟩
  obtain ⟨locs, hlocs0⟩ : ∃ locs : List Loc, locs = [] := ⟨_, rfl⟩
  have hP : va_P D vwCl (WX q cy u ++ rest) H := by rw [hH0]; exact hP
  have hS : va_S A s.heap H locs := by rw [hH0, hlocs0]; exact hS
  have hl : lv_has ls 9 [(0, .ref (q 19)), (1, .int a1), (2, .int a2)] := hl
  suffices hgoal : W p l e rmX4_bestLoad s m ([.ref (q 19), .int a1, .int a2] : List Value).toArray below meth c H locs 0 0 (MQ below (kQi D A res (WX q cy u ++ rest)) ([.ref (q 19), .int a1, .int a2] : List Value).toArray s 0 0 A) (F0 m 0 ls []) by rw [hH0, hlocs0] at hgoal; exact hgoal
  clear hH0 hlocs0
  unfold mX4_bestLoad at hf
  refine lv_iconst (v := 0) hx hb dX4_bestLoad_0 (by decide) ?_
  refine lv_istore_n (lv' := [(3, .int 0), (0, .ref (q 19)), (1, .int a1), (2, .int a2)]) hx hb dX4_bestLoad_1 rfl hl (by decide) rfl (fun ls hl => ?_)
  refine lv_aload_n hx hb dX4_bestLoad_2 rfl (lv_at hl 1 rfl) ?_
  refine lv_iload_n hx hb dX4_bestLoad_3 rfl (lv_at hl 2 rfl) ?_
  refine lv_iload_n hx hb dX4_bestLoad_4 rfl (lv_at hl 3 rfl) ?_
  refine lv_iconst (v := 0) hx hb dX4_bestLoad_5 (by decide) ?_
  obtain ⟨r6, h6r, hf⟩ := o_bs hf
  refine k_gol (va_runV (As := [.int a1, .int a2, .int 0]) (rest := []) ⟨hx, hb, hml, hown, hts⟩ (zX4_worth l D cy sa q rest H.size u a1 a2 0 r6 h6r) (cwV 3 hts (gB_V wB561 wB562 wB563 wB28 wB564) rfl rfl rfl (by decide +kernel) ⟨Nat.le_of_ble_eq_true rfl, Nat.le_of_ble_eq_true rfl⟩) ⟨kP.blind, k_recv hE hP (ci := 4) (q0 := 19) rfl rfl, k_pre hP hD hS hE hA⟩ rfl rfl hl.1 rfl (lv_room (Nat.le_of_ble_eq_true rfl)) dX4_bestLoad_6 ⟨Nat.zero_le _, Nat.zero_le _⟩) hD hS hA (fun H locs hP hD hS => ?_)
  refine lv_lstore (lv' := [(4, .long r6), (3, .int 0), (0, .ref (q 19)), (1, .int a1), (2, .int a2)]) hx hb dX4_bestLoad_9 hl (by decide) rfl (fun ls hl => ?_)
  refine lv_iconst (v := 1) hx hb dX4_bestLoad_11 (by decide) ?_
  refine lv_istore (lv' := [(6, .int 1), (4, .long r6), (3, .int 0), (0, .ref (q 19)), (1, .int a1), (2, .int a2)]) hx hb dX4_bestLoad_12 hl (by decide) rfl (fun ls hl => ?_)
  have L14 : ∀ (n14v : Nat) (s14 : Int32 × Int64 × Int32) (e14 : Int32), lpO (mX4_bestLoad_s14 u a1 a2) n14v s14 = some e14 → ∀ (H : Heap) (locs : List Loc) (ls : Array Slot), va_P D vwCl (WX q cy u ++ rest) H → va_D A (WX q cy u ++ rest) → va_S A s.heap H locs → lv_has ls 9 [(0, .ref (q 19)), (1, .int a1), (2, .int a2), (3, .int s14.1), (4, .long s14.2.1), (6, .int s14.2.2)] → (∀ (H : Heap) (locs : List Loc) (ls : Array Slot), va_P D vwCl (WX q cy u ++ rest) H → va_D A (WX q cy u ++ rest) → va_S A s.heap H locs → lv_has ls 9 [(3, .int e14)] → W p l e rmX4_bestLoad s m ([.ref (q 19), .int a1, .int a2] : List Value).toArray below meth c H locs 0 0 (MQ below (kQi D A res (WX q cy u ++ rest)) ([.ref (q 19), .int a1, .int a2] : List Value).toArray s 0 0 A) (F0 m 52 ls [])) → W p l e rmX4_bestLoad s m ([.ref (q 19), .int a1, .int a2] : List Value).toArray below meth c H locs 0 0 (MQ below (kQi D A res (WX q cy u ++ rest)) ([.ref (q 19), .int a1, .int a2] : List Value).toArray s 0 0 A) (F0 m 14 ls []) := by
    intro n14v
    induction n14v with
    | zero => intro s14 e14 h; exact (lpO_z h).elim
    | succ n14v ih14 =>
      intro s14 e14 h14z H locs ls hP hD hS hl K14_0
      obtain ⟨x14, hf, h14z⟩ := lpO_s h14z
      unfold mX4_bestLoad_s14 at hf
      refine lv_iload hx hb dX4_bestLoad_14 (lv_at hl 5 rfl) ?_
      refine lv_bipush (v := 9) hx hb dX4_bestLoad_16 (by decide) ?_
      refine lv_icmp_gt (tgt := 52) hx hb dX4_bestLoad_18 (by decide) (fun c18 => ?_) (fun c18 => ?_)
      · have hf := o_ip c18 hf
        obtain rfl := o_ret hf
        obtain rfl := lpK_l h14z
        exact K14_0 _ _ _ hP hD hS (lv_sub hl [3] rfl)
      · have hf := o_in c18 hf
        refine lv_aload_n hx hb dX4_bestLoad_21 rfl (lv_at hl 0 rfl) ?_
        refine lv_iload_n hx hb dX4_bestLoad_22 rfl (lv_at hl 1 rfl) ?_
        refine lv_iload_n hx hb dX4_bestLoad_23 rfl (lv_at hl 2 rfl) ?_
        refine lv_iload hx hb dX4_bestLoad_24 (lv_at hl 5 rfl) ?_
        obtain ⟨r26, h26r, hf⟩ := o_bs hf
        refine k_gol (va_runV (As := [.int a1, .int a2, .int s14.2.2]) (rest := []) ⟨hx, hb, hml, hown, hts⟩ (zX4_worth l D cy sa q rest H.size u a1 a2 s14.2.2 r26 h26r) (cwV 3 hts (gB_V wB561 wB562 wB563 wB28 wB564) rfl rfl rfl (by decide +kernel) ⟨Nat.le_of_ble_eq_true rfl, Nat.le_of_ble_eq_true rfl⟩) ⟨kP.blind, k_recv hE hP (ci := 4) (q0 := 19) rfl rfl, k_pre hP hD hS hE hA⟩ rfl rfl hl.1 rfl (lv_room (Nat.le_of_ble_eq_true rfl)) dX4_bestLoad_26 ⟨Nat.zero_le _, Nat.zero_le _⟩) hD hS hA (fun H locs hP hD hS => ?_)
        refine lv_lstore (lv' := [(7, .long r26), (0, .ref (q 19)), (1, .int a1), (2, .int a2), (3, .int s14.1), (4, .long s14.2.1), (6, .int s14.2.2)]) hx hb dX4_bestLoad_29 hl (by decide) rfl (fun ls hl => ?_)
        refine lv_lload hx hb dX4_bestLoad_31 (lv_at hl 0 rfl) ?_
        refine lv_lload hx hb dX4_bestLoad_33 (lv_at hl 5 rfl) ?_
        refine W.lcmp hx hb dX4_bestLoad_35 ?_
        refine lv_if_le (tgt := 46) hx hb dX4_bestLoad_36 (by decide) (fun c36 => ?_) (fun c36 => ?_)
        · have hf := o_ip c36 hf
          refine lv_iinc (v := (s14.2.2 + 1)) (lv' := [(6, .int (s14.2.2 + 1)), (7, .long r26), (0, .ref (q 19)), (1, .int a1), (2, .int a2), (3, .int s14.1), (4, .long s14.2.1)]) hx hb dX4_bestLoad_46 hl (k := 6) rfl (by rfl) (by decide) rfl (fun ls hl => ?_)
          refine lv_goto (tgt := 14) hx hb dX4_bestLoad_49 (by decide) ?_
          obtain rfl := o_ret hf
          exact ih14 _ _ (lpK_r h14z) _ _ _ hP hD hS (lv_sub hl [2, 3, 4, 5, 6, 0] rfl) K14_0
        · have hf := o_in c36 hf
          refine lv_iload hx hb dX4_bestLoad_39 (lv_at hl 6 rfl) ?_
          refine lv_istore_n (lv' := [(3, .int s14.2.2), (7, .long r26), (0, .ref (q 19)), (1, .int a1), (2, .int a2), (4, .long s14.2.1), (6, .int s14.2.2)]) hx hb dX4_bestLoad_41 rfl hl (by decide) rfl (fun ls hl => ?_)
          refine lv_lload hx hb dX4_bestLoad_42 (lv_at hl 1 rfl) ?_
          refine lv_lstore (lv' := [(4, .long r26), (3, .int s14.2.2), (7, .long r26), (0, .ref (q 19)), (1, .int a1), (2, .int a2), (6, .int s14.2.2)]) hx hb dX4_bestLoad_44 hl (by decide) rfl (fun ls hl => ?_)
          refine lv_iinc (v := (s14.2.2 + 1)) (lv' := [(6, .int (s14.2.2 + 1)), (4, .long r26), (3, .int s14.2.2), (7, .long r26), (0, .ref (q 19)), (1, .int a1), (2, .int a2)]) hx hb dX4_bestLoad_46 hl (k := 6) rfl (by rfl) (by decide) rfl (fun ls hl => ?_)
          refine lv_goto (tgt := 14) hx hb dX4_bestLoad_49 (by decide) ?_
          obtain rfl := o_ret hf
          exact ih14 _ _ (lpK_r h14z) _ _ _ hP hD hS (lv_sub hl [4, 5, 6, 2, 1, 0] rfl) K14_0
  obtain ⟨e14, h14q, hf⟩ := o_bs hf
  obtain ⟨n14v, h14q⟩ := lpF_ex h14q
  refine L14 n14v _ e14 h14q _ _ _ hP hD hS (lv_sub hl [3, 4, 5, 2, 1, 0] rfl) ?_
  intro H locs ls hP hD hS hl
  refine lv_iload_n hx hb dX4_bestLoad_52 rfl (lv_at hl 0 rfl) ?_
  obtain rfl := o_ret hf
  exact k_iret hx hb hr hP hD hS (Nat.zero_le _) (Nat.zero_le _) hlocks dX4_bestLoad_53
noncomputable def mX4_make_s47 (c1 : Int32) (c2 : Int32) (c3 : Int32) (c4 : Int32) (c5 : Int32) (s47 : Int32 × KS) : Option ((KS) ⊕ (Int32 × KS)) :=
  if 3 < s47.1 then
  (some (.inl s47.2))
  else
  ((mX4_bestLoad s47.2 s47.1 c3).bind fun r57 =>
  (mX4_worth s47.2 s47.1 c3 r57).bind fun r74 =>
  (mX5_set_ 5 (gA s47.2 1) s47.1 r74).bind fun r77 =>
  if s47.1 = c1 then
  (some (.inr ((s47.1 + 1), (sI (sA s47.2 1 r77) 10 r57))))
  else
  (some (.inr ((s47.1 + 1), (sA s47.2 1 r77)))))
noncomputable def mX4_make_s21 (c1 : Int32) (c2 : Int32) (c3 : Int32) (c4 : Int32) (s21 : Int32 × KS) : Option ((KS) ⊕ (Int32 × KS)) :=
  if c2 < s21.1 then
  (some (.inl s21.2))
  else
  ((mX5_set_ 5 (gA s21.2 1) 4 (((-c4).toInt64) * (gL s21.2 1))).bind fun r41 =>
  (lpF (mX4_make_s47 c1 c2 c3 c4 s21.1) (1, (sA s21.2 1 r41))).bind fun e47 =>
  some (.inr ((s21.1 + 1), (sL e47 1 ((gL e47 1) * 20)))))
noncomputable def mX4_make (u : KS) (a1 : Int32) (a2 : Int32) (a3 : Int32) (a4 : Int32) : Option (KS) :=
  (mJ7_fill_d0a16 5 (gA u 1) 0).bind fun r5 =>
  (lpF (mX4_make_s21 a1 a2 a3 a4) (1, (sL (sI (sA u 1 r5) 10 0) 1 1))).bind fun e21 =>
  some e21
abbrev rmX4_make : Room := { frames := 3, cells := 0, slots := 0, locals := 72 }
set_option maxRecDepth 100000 in
set_option maxHeartbeats 4000000 in
theorem zX4_make (l : Launch) (D : va_G) (cy : Nat → ClassId) (sa : Nat → Nat) (q : Nat → Nat) (rest : va_W) (sz : Nat) (u : KS) (a1 : Int32) (a2 : Int32) (a3 : Int32) (a4 : Int32) (res : KS) (hf : mX4_make u a1 a2 a3 a4 = some res) : kMv l yX4_make (wsK yX4_make cX4_make 8 none) rmX4_make D cy sa (WX q cy u ++ rest) sz [.ref (q 19), .int a1, .int a2, .int a3, .int a4] (WX q cy res ++ rest) 0 0 := by
  refine kM_of (Qc := fun A => kQv D A (WX q cy res ++ rest)) (cc := cX4_make) (maxL := 8) (ret := none) (by decide) (Nat.le_of_ble_eq_true rfl) ?_
  intro p e s m below meth c A hx hb hml hr hts hown hlocks hin hA hP hD hS hE hsz ls hl
  have hown : s.vm.findClass RX4 = some m.cls := hown
  obtain ⟨H, hH0⟩ : ∃ H, H = s.heap := ⟨_, rfl⟩
  obtain ⟨locs, hlocs0⟩ : ∃ locs : List Loc, locs = [] := ⟨_, rfl⟩
  have hP : va_P D vwCl (WX q cy u ++ rest) H := by rw [hH0]; exact hP
  have hS : va_S A s.heap H locs := by rw [hH0, hlocs0]; exact hS
  have hl : lv_has ls 8 [(0, .ref (q 19)), (1, .int a1), (2, .int a2), (3, .int a3), (4, .int a4)] := hl
  suffices hgoal : W p l e rmX4_make s m ([.ref (q 19), .int a1, .int a2, .int a3, .int a4] : List Value).toArray below meth c H locs 0 0 (MQ below (kQv D A (WX q cy res ++ rest)) ([.ref (q 19), .int a1, .int a2, .int a3, .int a4] : List Value).toArray s 0 0 A) (F0 m 0 ls []) by rw [hH0, hlocs0] at hgoal; exact hgoal
  clear hH0 hlocs0
  unfold mX4_make at hf
  refine lv_aload_n hx hb dX4_make_0 rfl (lv_at hl 0 rfl) ?_
  refine va_get (ci := 4) (v := .ref (q 20)) (C := RX4) (T := TX4) (N := 3) hx hb hts inlX4 hown hE.1 hP 19 rfl rfl 0 (by decide) (hts _ wB65) (fun _ h9 => h9) rfl dX4_make_1 ?_
  refine lv_lconst (v := 0) hx hb dX4_make_4 (by decide) ?_
  obtain ⟨r5, h5r, hf⟩ := o_bs hf
  refine k_gov (va_runS (As := [.ref (q 20), .long 0]) (rest := []) ⟨hx, hb, hml, hown, hts⟩ (zJ7_fill_d0a16 l D cy sa (WX q cy u ++ rest) H.size 20 (q 20) 5 (gA u 1) 0 r5 rfl h5r) (va_cwS 2 hts (gB_S wB553 wB554 wB555 wB556) rfl rfl rfl (by decide +kernel) ⟨Nat.le_of_ble_eq_true rfl, Nat.le_of_ble_eq_true rfl⟩) ⟨kP.blind, k_pre hP hD hS hE hA⟩ rfl rfl hl.1 rfl (lv_room (Nat.le_of_ble_eq_true rfl)) dX4_make_5 ⟨Nat.zero_le _, Nat.zero_le _⟩) hD hS hA (fun H locs hP hD hS => ?_)
  have hP : va_P D vwCl (WX q cy (sA u 1 r5) ++ rest) H := hP
  have hD : va_D A (WX q cy (sA u 1 r5) ++ rest) := hD
  refine lv_aload_n hx hb dX4_make_8 rfl (lv_at hl 0 rfl) ?_
  refine lv_lconst (v := 1) hx hb dX4_make_9 (by decide) ?_
  refine va_put (ci := 4) (v := .long 1) (ty := .long) (C := RX4) (T := TX4) (N := 3) hx hb hts inlX4 tyX4 tyX4_ok nmX4 hown hE.1 hP hD hS 19 rfl rfl 1 (by decide) (hts _ wB550) (fun _ h9 => h9) rfl (by decide +kernel) rfl rfl (Nat.le_of_ble_eq_true rfl) dX4_make_10 (fun H locs hP hD hS => ?_)
  have hQ : ∀ (xb : KS) (x0 : (Nat → Int64)) (xn : Int64), (WX q cy (sA xb 1 x0) ++ rest).set 19 (q 19, .inr (4, [.ref (q 20), .long (gL (sA xb 1 x0) 1), .int (gI (sA xb 1 x0) 10)].set 1 (.long xn))) = WX q cy (sL (sA xb 1 x0) 1 xn) ++ rest := fun _ _ _ => rfl
  have hP : va_P D vwCl (WX q cy (sL (sA u 1 r5) 1 1) ++ rest) H := k_wP (hQ u r5 1) hP
  have hD : va_D A (WX q cy (sL (sA u 1 r5) 1 1) ++ rest) := k_wD (hQ u r5 1) hD
  clear hQ
  refine lv_aload_n hx hb dX4_make_13 rfl (lv_at hl 0 rfl) ?_
  refine lv_iconst (v := 0) hx hb dX4_make_14 (by decide) ?_
  refine va_put (ci := 4) (v := .int 0) (ty := .int) (C := RX4) (T := TX4) (N := 3) hx hb hts inlX4 tyX4 tyX4_ok nmX4 hown hE.1 hP hD hS 19 rfl rfl 2 (by decide) (hts _ wB551) (fun _ h9 => h9) rfl (by decide +kernel) rfl rfl (Nat.le_of_ble_eq_true rfl) dX4_make_15 (fun H locs hP hD hS => ?_)
  have hQ : ∀ (xb : KS) (x0 : (Nat → Int64)) (x1 : Int64) (xn : Int32), (WX q cy (sL (sA xb 1 x0) 1 x1) ++ rest).set 19 (q 19, .inr (4, [.ref (q 20), .long (gL (sL (sA xb 1 x0) 1 x1) 1), .int (gI (sL (sA xb 1 x0) 1 x1) 10)].set 2 (.int xn))) = WX q cy (sL (sI (sA xb 1 x0) 10 xn) 1 x1) ++ rest := fun _ _ _ _ => rfl
  have hP : va_P D vwCl (WX q cy (sL (sI (sA u 1 r5) 10 0) 1 1) ++ rest) H := k_wP (hQ u r5 1 0) hP
  have hD : va_D A (WX q cy (sL (sI (sA u 1 r5) 10 0) 1 1) ++ rest) := k_wD (hQ u r5 1 0) hD
  clear hQ
  refine lv_iconst (v := 1) hx hb dX4_make_18 (by decide) ?_
  refine lv_istore (lv' := [(5, .int 1), (0, .ref (q 19)), (1, .int a1), (2, .int a2), (3, .int a3), (4, .int a4)]) hx hb dX4_make_19 hl (by decide) rfl (fun ls hl => ?_)
  have L21 : ∀ (n21v : Nat) (s21 : Int32 × KS) (e21 : KS), lpO (mX4_make_s21 a1 a2 a3 a4) n21v s21 = some e21 → ∀ (H : Heap) (locs : List Loc) (ls : Array Slot), va_P D vwCl (WX q cy s21.2 ++ rest) H → va_D A (WX q cy s21.2 ++ rest) → va_S A s.heap H locs → lv_has ls 8 [(0, .ref (q 19)), (1, .int a1), (2, .int a2), (3, .int a3), (4, .int a4), (5, .int s21.1)] → (∀ (H : Heap) (locs : List Loc) (ls : Array Slot), va_P D vwCl (WX q cy e21 ++ rest) H → va_D A (WX q cy e21 ++ rest) → va_S A s.heap H locs → lv_has ls 8 [] → W p l e rmX4_make s m ([.ref (q 19), .int a1, .int a2, .int a3, .int a4] : List Value).toArray below meth c H locs 0 0 (MQ below (kQv D A (WX q cy res ++ rest)) ([.ref (q 19), .int a1, .int a2, .int a3, .int a4] : List Value).toArray s 0 0 A) (F0 m 116 ls [])) → W p l e rmX4_make s m ([.ref (q 19), .int a1, .int a2, .int a3, .int a4] : List Value).toArray below meth c H locs 0 0 (MQ below (kQv D A (WX q cy res ++ rest)) ([.ref (q 19), .int a1, .int a2, .int a3, .int a4] : List Value).toArray s 0 0 A) (F0 m 21 ls []) := by
    intro n21v
    induction n21v with
    | zero => intro s21 e21 h; exact (lpO_z h).elim
    | succ n21v ih21 =>
      intro s21 e21 h21z H locs ls hP hD hS hl K21_0
      obtain ⟨x21, hf, h21z⟩ := lpO_s h21z
      unfold mX4_make_s21 at hf
      refine lv_iload hx hb dX4_make_21 (lv_at hl 5 rfl) ?_
      refine lv_iload_n hx hb dX4_make_23 rfl (lv_at hl 2 rfl) ?_
      refine lv_icmp_gt (tgt := 116) hx hb dX4_make_24 (by decide) (fun c24 => ?_) (fun c24 => ?_)
      · have hf := o_ip c24 hf
        obtain rfl := o_ret hf
        obtain rfl := lpK_l h21z
        exact K21_0 _ _ _ hP hD hS (lv_sub hl [] rfl)
      · have hf := o_in c24 hf
        refine lv_aload_n hx hb dX4_make_27 rfl (lv_at hl 0 rfl) ?_
        refine va_get (ci := 4) (v := .ref (q 20)) (C := RX4) (T := TX4) (N := 3) hx hb hts inlX4 hown hE.1 hP 19 rfl rfl 0 (by decide) (hts _ wB65) (fun _ h9 => h9) rfl dX4_make_28 ?_
        refine lv_iconst (v := 4) hx hb dX4_make_31 (by decide) ?_
        refine lv_iload hx hb dX4_make_32 (lv_at hl 4 rfl) ?_
        refine lv_ineg hx hb dX4_make_34 ?_
        refine lv_i2l (v := ((-a4).toInt64)) hx hb dX4_make_35 rfl ?_
        refine lv_aload_n hx hb dX4_make_36 rfl (lv_at hl 0 rfl) ?_
        refine va_get (ci := 4) (v := .long (gL s21.2 1)) (C := RX4) (T := TX4) (N := 3) hx hb hts inlX4 hown hE.1 hP 19 rfl rfl 1 (by decide) (hts _ wB550) (fun _ h9 => h9) rfl dX4_make_37 ?_
        refine lv_lmul hx hb dX4_make_40 ?_
        obtain ⟨r41, h41r, hf⟩ := o_bs hf
        refine k_gov (va_runSN (As := [.ref (q 20), .int 4, .long (((-a4).toInt64) * (gL s21.2 1))]) (rest := []) ⟨hx, hb, hml, hown, hts⟩ (zX5_set_ l D cy sa (WX q cy s21.2 ++ rest) H.size 20 (q 20) 5 (gA s21.2 1) 4 (((-a4).toInt64) * (gL s21.2 1)) r41 rfl h41r) ⟨va_cnB 3 hts (gB_K wB383) rfl rfl rfl (hE.2.1.1 _ (List.mem_of_getElem? (i := 13) rfl)) (hts _ wB2) (by decide +kernel) ⟨Nat.le_of_ble_eq_true rfl, Nat.le_of_ble_eq_true rfl⟩, hts _ wB382, trivial⟩ ⟨kP.blind, k_pre hP hD hS hE hA⟩ rfl rfl hl.1 rfl (lv_room (Nat.le_of_ble_eq_true rfl)) dX4_make_41 ⟨Nat.zero_le _, Nat.zero_le _⟩) hD hS hA (fun H locs hP hD hS => ?_)
        have hP : va_P D vwCl (WX q cy (sA s21.2 1 r41) ++ rest) H := hP
        have hD : va_D A (WX q cy (sA s21.2 1 r41) ++ rest) := hD
        refine lv_iconst (v := 1) hx hb dX4_make_44 (by decide) ?_
        refine lv_istore (lv' := [(6, .int 1), (0, .ref (q 19)), (1, .int a1), (2, .int a2), (3, .int a3), (4, .int a4), (5, .int s21.1)]) hx hb dX4_make_45 hl (by decide) rfl (fun ls hl => ?_)
        have L47 : ∀ (n47v : Nat) (s47 : Int32 × KS) (e47 : KS), lpO (mX4_make_s47 a1 a2 a3 a4 s21.1) n47v s47 = some e47 → ∀ (H : Heap) (locs : List Loc) (ls : Array Slot), va_P D vwCl (WX q cy s47.2 ++ rest) H → va_D A (WX q cy s47.2 ++ rest) → va_S A s.heap H locs → lv_has ls 8 [(0, .ref (q 19)), (1, .int a1), (2, .int a2), (3, .int a3), (4, .int a4), (5, .int s21.1), (6, .int s47.1)] → (∀ (H : Heap) (locs : List Loc) (ls : Array Slot), va_P D vwCl (WX q cy e47 ++ rest) H → va_D A (WX q cy e47 ++ rest) → va_S A s.heap H locs → lv_has ls 8 [(0, .ref (q 19)), (1, .int a1), (2, .int a2), (3, .int a3), (4, .int a4), (5, .int s21.1)] → W p l e rmX4_make s m ([.ref (q 19), .int a1, .int a2, .int a3, .int a4] : List Value).toArray below meth c H locs 0 0 (MQ below (kQv D A (WX q cy res ++ rest)) ([.ref (q 19), .int a1, .int a2, .int a3, .int a4] : List Value).toArray s 0 0 A) (F0 m 98 ls [])) → W p l e rmX4_make s m ([.ref (q 19), .int a1, .int a2, .int a3, .int a4] : List Value).toArray below meth c H locs 0 0 (MQ below (kQv D A (WX q cy res ++ rest)) ([.ref (q 19), .int a1, .int a2, .int a3, .int a4] : List Value).toArray s 0 0 A) (F0 m 47 ls []) := by
          intro n47v
          induction n47v with
          | zero => intro s47 e47 h; exact (lpO_z h).elim
          | succ n47v ih47 =>
            intro s47 e47 h47z H locs ls hP hD hS hl K47_0
            obtain ⟨x47, hf, h47z⟩ := lpO_s h47z
            unfold mX4_make_s47 at hf
            refine lv_iload hx hb dX4_make_47 (lv_at hl 6 rfl) ?_
            refine lv_iconst (v := 3) hx hb dX4_make_49 (by decide) ?_
            refine lv_icmp_gt (tgt := 98) hx hb dX4_make_50 (by decide) (fun c50 => ?_) (fun c50 => ?_)
            · have hf := o_ip c50 hf
              obtain rfl := o_ret hf
              obtain rfl := lpK_l h47z
              exact K47_0 _ _ _ hP hD hS (lv_sub hl [0, 1, 2, 3, 4, 5] rfl)
            · have hf := o_in c50 hf
              refine lv_aload_n hx hb dX4_make_53 rfl (lv_at hl 0 rfl) ?_
              refine lv_iload hx hb dX4_make_54 (lv_at hl 6 rfl) ?_
              refine lv_iload_n hx hb dX4_make_56 rfl (lv_at hl 3 rfl) ?_
              obtain ⟨r57, h57r, hf⟩ := o_bs hf
              refine k_goi (va_runV (As := [.int s47.1, .int a3]) (rest := []) ⟨hx, hb, hml, hown, hts⟩ (zX4_bestLoad l D cy sa q rest H.size s47.2 s47.1 a3 r57 h57r) (cwV 2 hts (gB_V wB557 wB558 wB559 wB28 wB560) rfl rfl rfl (by decide +kernel) ⟨Nat.le_of_ble_eq_true rfl, Nat.le_of_ble_eq_true rfl⟩) ⟨kP.blind, k_recv hE hP (ci := 4) (q0 := 19) rfl rfl, k_pre hP hD hS hE hA⟩ rfl rfl hl.1 rfl (lv_room (Nat.le_of_ble_eq_true rfl)) dX4_make_57 ⟨Nat.zero_le _, Nat.zero_le _⟩) hD hS hA (fun H locs hP hD hS => ?_)
              refine lv_istore (lv' := [(7, .int r57), (0, .ref (q 19)), (1, .int a1), (2, .int a2), (3, .int a3), (4, .int a4), (5, .int s21.1), (6, .int s47.1)]) hx hb dX4_make_60 hl (by decide) rfl (fun ls hl => ?_)
              refine lv_aload_n hx hb dX4_make_62 rfl (lv_at hl 1 rfl) ?_
              refine va_get (ci := 4) (v := .ref (q 20)) (C := RX4) (T := TX4) (N := 3) hx hb hts inlX4 hown hE.1 hP 19 rfl rfl 0 (by decide) (hts _ wB65) (fun _ h9 => h9) rfl dX4_make_63 ?_
              refine lv_iload hx hb dX4_make_66 (lv_at hl 7 rfl) ?_
              refine lv_aload_n hx hb dX4_make_68 rfl (lv_at hl 1 rfl) ?_
              refine lv_iload hx hb dX4_make_69 (lv_at hl 7 rfl) ?_
              refine lv_iload_n hx hb dX4_make_71 rfl (lv_at hl 4 rfl) ?_
              refine lv_iload hx hb dX4_make_72 (lv_at hl 0 rfl) ?_
              obtain ⟨r74, h74r, hf⟩ := o_bs hf
              refine k_gol (va_runV (As := [.int s47.1, .int a3, .int r57]) (rest := [.int s47.1, .ref (q 20)]) ⟨hx, hb, hml, hown, hts⟩ (zX4_worth l D cy sa q rest H.size s47.2 s47.1 a3 r57 r74 h74r) (cwV 3 hts (gB_V wB561 wB562 wB563 wB28 wB564) rfl rfl rfl (by decide +kernel) ⟨Nat.le_of_ble_eq_true rfl, Nat.le_of_ble_eq_true rfl⟩) ⟨kP.blind, k_recv hE hP (ci := 4) (q0 := 19) rfl rfl, k_pre hP hD hS hE hA⟩ rfl rfl hl.1 rfl (lv_room (Nat.le_of_ble_eq_true rfl)) dX4_make_74 ⟨Nat.zero_le _, Nat.zero_le _⟩) hD hS hA (fun H locs hP hD hS => ?_)
              obtain ⟨r77, h77r, hf⟩ := o_bs hf
              refine k_gov (va_runSN (As := [.ref (q 20), .int s47.1, .long r74]) (rest := []) ⟨hx, hb, hml, hown, hts⟩ (zX5_set_ l D cy sa (WX q cy s47.2 ++ rest) H.size 20 (q 20) 5 (gA s47.2 1) s47.1 r74 r77 rfl h77r) ⟨va_cnB 3 hts (gB_K wB383) rfl rfl rfl (hE.2.1.1 _ (List.mem_of_getElem? (i := 13) rfl)) (hts _ wB2) (by decide +kernel) ⟨Nat.le_of_ble_eq_true rfl, Nat.le_of_ble_eq_true rfl⟩, hts _ wB382, trivial⟩ ⟨kP.blind, k_pre hP hD hS hE hA⟩ rfl rfl hl.1 rfl (lv_room (Nat.le_of_ble_eq_true rfl)) dX4_make_77 ⟨Nat.zero_le _, Nat.zero_le _⟩) hD hS hA (fun H locs hP hD hS => ?_)
              have hP : va_P D vwCl (WX q cy (sA s47.2 1 r77) ++ rest) H := hP
              have hD : va_D A (WX q cy (sA s47.2 1 r77) ++ rest) := hD
              refine lv_iload hx hb dX4_make_80 (lv_at hl 7 rfl) ?_
              refine lv_iload_n hx hb dX4_make_82 rfl (lv_at hl 2 rfl) ?_
              refine lv_icmp_ne (tgt := 92) hx hb dX4_make_83 (by decide) (fun c83 => ?_) (fun c83 => ?_)
              · have hf := o_in c83 hf
                refine lv_iinc (v := (s47.1 + 1)) (lv' := [(6, .int (s47.1 + 1)), (7, .int r57), (0, .ref (q 19)), (1, .int a1), (2, .int a2), (3, .int a3), (4, .int a4), (5, .int s21.1)]) hx hb dX4_make_92 hl (k := 7) rfl (by rfl) (by decide) rfl (fun ls hl => ?_)
                refine lv_goto (tgt := 47) hx hb dX4_make_95 (by decide) ?_
                obtain rfl := o_ret hf
                exact ih47 _ _ (lpK_r h47z) _ _ _ hP hD hS (lv_sub hl [2, 3, 4, 5, 6, 7, 0] rfl) K47_0
              · have hf := o_ip c83 hf
                refine lv_aload_n hx hb dX4_make_86 rfl (lv_at hl 1 rfl) ?_
                refine lv_iload hx hb dX4_make_87 (lv_at hl 0 rfl) ?_
                refine va_put (ci := 4) (v := .int r57) (ty := .int) (C := RX4) (T := TX4) (N := 3) hx hb hts inlX4 tyX4 tyX4_ok nmX4 hown hE.1 hP hD hS 19 rfl rfl 2 (by decide) (hts _ wB551) (fun _ h9 => h9) rfl (by decide +kernel) rfl rfl (Nat.le_of_ble_eq_true rfl) dX4_make_89 (fun H locs hP hD hS => ?_)
                have hQ : ∀ (xb : KS) (x0 : (Nat → Int64)) (xn : Int32), (WX q cy (sA xb 1 x0) ++ rest).set 19 (q 19, .inr (4, [.ref (q 20), .long (gL (sA xb 1 x0) 1), .int (gI (sA xb 1 x0) 10)].set 2 (.int xn))) = WX q cy (sI (sA xb 1 x0) 10 xn) ++ rest := fun _ _ _ => rfl
                have hP : va_P D vwCl (WX q cy (sI (sA s47.2 1 r77) 10 r57) ++ rest) H := k_wP (hQ s47.2 r77 r57) hP
                have hD : va_D A (WX q cy (sI (sA s47.2 1 r77) 10 r57) ++ rest) := k_wD (hQ s47.2 r77 r57) hD
                clear hQ
                refine lv_iinc (v := (s47.1 + 1)) (lv' := [(6, .int (s47.1 + 1)), (7, .int r57), (0, .ref (q 19)), (1, .int a1), (2, .int a2), (3, .int a3), (4, .int a4), (5, .int s21.1)]) hx hb dX4_make_92 hl (k := 7) rfl (by rfl) (by decide) rfl (fun ls hl => ?_)
                refine lv_goto (tgt := 47) hx hb dX4_make_95 (by decide) ?_
                obtain rfl := o_ret hf
                exact ih47 _ _ (lpK_r h47z) _ _ _ hP hD hS (lv_sub hl [2, 3, 4, 5, 6, 7, 0] rfl) K47_0
        obtain ⟨e47, h47q, hf⟩ := o_bs hf
        obtain ⟨n47v, h47q⟩ := lpF_ex h47q
        refine L47 n47v _ e47 h47q _ _ _ hP hD hS (lv_sub hl [1, 2, 3, 4, 5, 6, 0] rfl) ?_
        intro H locs ls hP hD hS hl
        refine lv_aload_n hx hb dX4_make_98 rfl (lv_at hl 0 rfl) ?_
        refine lv_dup hx hb dX4_make_99 rfl ?_
        refine va_get (ci := 4) (v := .long (gL e47 1)) (C := RX4) (T := TX4) (N := 3) hx hb hts inlX4 hown hE.1 hP 19 rfl rfl 1 (by decide) (hts _ wB550) (fun _ h9 => h9) rfl dX4_make_100 ?_
        refine lv_ldc2 (v := 20) hx hb hown (hts _ wB552) dX4_make_103 ?_
        refine lv_lmul hx hb dX4_make_106 ?_
        refine va_put (ci := 4) (v := .long ((gL e47 1) * 20)) (ty := .long) (C := RX4) (T := TX4) (N := 3) hx hb hts inlX4 tyX4 tyX4_ok nmX4 hown hE.1 hP hD hS 19 rfl rfl 1 (by decide) (hts _ wB550) (fun _ h9 => h9) rfl (by decide +kernel) rfl rfl (Nat.le_of_ble_eq_true rfl) dX4_make_107 (fun H locs hP hD hS => ?_)
        have hP : va_P D vwCl (WX q cy (sL e47 1 ((gL e47 1) * 20)) ++ rest) H := hP
        have hD : va_D A (WX q cy (sL e47 1 ((gL e47 1) * 20)) ++ rest) := hD
        refine lv_iinc (v := (s21.1 + 1)) (lv' := [(5, .int (s21.1 + 1)), (0, .ref (q 19)), (1, .int a1), (2, .int a2), (3, .int a3), (4, .int a4)]) hx hb dX4_make_110 hl (k := 5) rfl (by rfl) (by decide) rfl (fun ls hl => ?_)
        refine lv_goto (tgt := 21) hx hb dX4_make_113 (by decide) ?_
        obtain rfl := o_ret hf
        exact ih21 _ _ (lpK_r h21z) _ _ _ hP hD hS (lv_sub hl [1, 2, 3, 4, 5, 0] rfl) K21_0
  obtain ⟨e21, h21q, hf⟩ := o_bs hf
  obtain ⟨n21v, h21q⟩ := lpF_ex h21q
  refine L21 n21v _ e21 h21q _ _ _ hP hD hS (lv_sub hl [1, 2, 3, 4, 5, 0] rfl) ?_
  intro H locs ls hP hD hS hl
  obtain rfl := o_ret hf
  exact k_vret hx hb hr hP hD hS (Nat.zero_le _) (Nat.zero_le _) hlocks dX4_make_116
noncomputable def mX5_refuse (u : KS) (a1 : Int32) (a2 : Int32) : Option (Int32 × KS) :=
  (mX5_at 3 (gR u 0) a1).bind fun r10 =>
  (mX5_set 3 (gR u 0) a1 (r10 + 1)).bind fun r15 =>
  some (a2, (sR u 0 r15))
abbrev rmX5_refuse : Room := { frames := 1, cells := 0, slots := 0, locals := 22 }
set_option maxRecDepth 100000 in
set_option maxHeartbeats 4000000 in
theorem zX5_refuse (l : Launch) (D : va_G) (cy : Nat → ClassId) (sa : Nat → Nat) (q : Nat → Nat) (rest : va_W) (sz : Nat) (u : KS) (a1 : Int32) (a2 : Int32) (res : Int32 × KS) (hf : mX5_refuse u a1 a2 = some res) : kMi l yX5_refuse (wsK yX5_refuse cX5_refuse 3 (some .int)) rmX5_refuse D cy sa (WX q cy u ++ rest) sz [.ref (q 0), .int a1, .int a2] res.1 (WX q cy res.2 ++ rest) 0 0 := by
  refine kM_of (Qc := fun A => kQi D A res.1 (WX q cy res.2 ++ rest)) (cc := cX5_refuse) (maxL := 3) (ret := (some .int)) (by decide) (Nat.le_of_ble_eq_true rfl) ?_
  intro p e s m below meth c A hx hb hml hr hts hown hlocks hin hA hP hD hS hE hsz ls hl
  have hown : s.vm.findClass RX5 = some m.cls := hown
  obtain ⟨H, hH0⟩ : ∃ H, H = s.heap := ⟨_, rfl⟩
  obtain ⟨locs, hlocs0⟩ : ∃ locs : List Loc, locs = [] := ⟨_, rfl⟩
  have hP : va_P D vwCl (WX q cy u ++ rest) H := by rw [hH0]; exact hP
  have hS : va_S A s.heap H locs := by rw [hH0, hlocs0]; exact hS
  have hl : lv_has ls 3 [(0, .ref (q 0)), (1, .int a1), (2, .int a2)] := hl
  suffices hgoal : W p l e rmX5_refuse s m ([.ref (q 0), .int a1, .int a2] : List Value).toArray below meth c H locs 0 0 (MQ below (kQi D A res.1 (WX q cy res.2 ++ rest)) ([.ref (q 0), .int a1, .int a2] : List Value).toArray s 0 0 A) (F0 m 0 ls []) by rw [hH0, hlocs0] at hgoal; exact hgoal
  clear hH0 hlocs0
  unfold mX5_refuse at hf
  refine lv_aload_n hx hb dX5_refuse_0 rfl (lv_at hl 0 rfl) ?_
  refine va_get (ci := 5) (v := .ref (q 2)) (C := RX5) (T := TX5) (N := 9) hx hb hts inlX5 hown hE.1 hP 0 rfl rfl 6 (by decide) (hts _ wB35) (fun _ h9 => h9) rfl dX5_refuse_1 ?_
  refine lv_iload_n hx hb dX5_refuse_4 rfl (lv_at hl 1 rfl) ?_
  refine lv_aload_n hx hb dX5_refuse_5 rfl (lv_at hl 0 rfl) ?_
  refine va_get (ci := 5) (v := .ref (q 2)) (C := RX5) (T := TX5) (N := 9) hx hb hts inlX5 hown hE.1 hP 0 rfl rfl 6 (by decide) (hts _ wB35) (fun _ h9 => h9) rfl dX5_refuse_6 ?_
  refine lv_iload_n hx hb dX5_refuse_9 rfl (lv_at hl 1 rfl) ?_
  obtain ⟨r10, h10r, hf⟩ := o_bs hf
  refine k_goi (va_runS (As := [.ref (q 2), .int a1]) (rest := [.int a1, .ref (q 2)]) ⟨hx, hb, hml, hown, hts⟩ (zX5_at l D cy sa (WX q cy u ++ rest) H.size 2 (q 2) 3 (gR u 0) a1 r10 rfl h10r) (va_cwS 2 hts (gB_S wB110 wB111 wB2 wB112) rfl rfl rfl (by decide +kernel) ⟨Nat.le_of_ble_eq_true rfl, Nat.le_of_ble_eq_true rfl⟩) ⟨kP.blind, k_pre hP hD hS hE hA⟩ rfl rfl hl.1 rfl (lv_room (Nat.le_of_ble_eq_true rfl)) dX5_refuse_10 ⟨Nat.zero_le _, Nat.zero_le _⟩) hD hS hA (fun H locs hP hD hS => ?_)
  refine lv_iconst (v := 1) hx hb dX5_refuse_13 (by decide) ?_
  refine lv_iadd hx hb dX5_refuse_14 ?_
  obtain ⟨r15, h15r, hf⟩ := o_bs hf
  refine k_gov (va_runS (As := [.ref (q 2), .int a1, .int (r10 + 1)]) (rest := []) ⟨hx, hb, hml, hown, hts⟩ (zX5_set l D cy sa (WX q cy u ++ rest) H.size 2 (q 2) 3 (gR u 0) a1 (r10 + 1) r15 rfl h15r) (va_cwS 3 hts (gB_S wB113 wB114 wB2 wB115) rfl rfl rfl (by decide +kernel) ⟨Nat.le_of_ble_eq_true rfl, Nat.le_of_ble_eq_true rfl⟩) ⟨kP.blind, k_pre hP hD hS hE hA⟩ rfl rfl hl.1 rfl (lv_room (Nat.le_of_ble_eq_true rfl)) dX5_refuse_15 ⟨Nat.zero_le _, Nat.zero_le _⟩) hD hS hA (fun H locs hP hD hS => ?_)
  have hP : va_P D vwCl (WX q cy (sR u 0 r15) ++ rest) H := hP
  have hD : va_D A (WX q cy (sR u 0 r15) ++ rest) := hD
  refine lv_iload_n hx hb dX5_refuse_18 rfl (lv_at hl 2 rfl) ?_
  obtain rfl := o_ret hf
  exact k_iret hx hb hr hP hD hS (Nat.zero_le _) (Nat.zero_le _) hlocks dX5_refuse_19
noncomputable def mX5_bad (u : KS) : Option (Int32 × KS) :=
  (mX5_refuse u 0 (-2)).bind fun r4 =>
  some (r4.1, r4.2)
abbrev rmX5_bad : Room := { frames := 2, cells := 0, slots := 0, locals := 44 }
set_option maxRecDepth 100000 in
set_option maxHeartbeats 4000000 in
theorem zX5_bad (l : Launch) (D : va_G) (cy : Nat → ClassId) (sa : Nat → Nat) (q : Nat → Nat) (rest : va_W) (sz : Nat) (u : KS) (res : Int32 × KS) (hf : mX5_bad u = some res) : kMi l yX5_bad (wsK yX5_bad cX5_bad 1 (some .int)) rmX5_bad D cy sa (WX q cy u ++ rest) sz [.ref (q 0)] res.1 (WX q cy res.2 ++ rest) 0 0 := by
  refine kM_of (Qc := fun A => kQi D A res.1 (WX q cy res.2 ++ rest)) (cc := cX5_bad) (maxL := 1) (ret := (some .int)) (by decide) (Nat.le_of_ble_eq_true rfl) ?_
  intro p e s m below meth c A hx hb hml hr hts hown hlocks hin hA hP hD hS hE hsz ls hl
  have hown : s.vm.findClass RX5 = some m.cls := hown
  obtain ⟨H, hH0⟩ : ∃ H, H = s.heap := ⟨_, rfl⟩
  obtain ⟨locs, hlocs0⟩ : ∃ locs : List Loc, locs = [] := ⟨_, rfl⟩
  have hP : va_P D vwCl (WX q cy u ++ rest) H := by rw [hH0]; exact hP
  have hS : va_S A s.heap H locs := by rw [hH0, hlocs0]; exact hS
  have hl : lv_has ls 1 [(0, .ref (q 0))] := hl
  suffices hgoal : W p l e rmX5_bad s m ([.ref (q 0)] : List Value).toArray below meth c H locs 0 0 (MQ below (kQi D A res.1 (WX q cy res.2 ++ rest)) ([.ref (q 0)] : List Value).toArray s 0 0 A) (F0 m 0 ls []) by rw [hH0, hlocs0] at hgoal; exact hgoal
  clear hH0 hlocs0
  unfold mX5_bad at hf
  refine lv_aload_n hx hb dX5_bad_0 rfl (lv_at hl 0 rfl) ?_
  refine lv_iconst (v := 0) hx hb dX5_bad_1 (by decide) ?_
  refine lv_bipush (v := (-2)) hx hb dX5_bad_2 (by decide) ?_
  obtain ⟨r4, h4r, hf⟩ := o_bs hf
  refine k_goi (va_runV (As := [.int 0, .int (-2)]) (rest := []) ⟨hx, hb, hml, hown, hts⟩ (zX5_refuse l D cy sa q rest H.size u 0 (-2) r4 h4r) (cwV 2 hts (gB_V wB106 wB107 wB108 wB2 wB109) rfl rfl rfl (by decide +kernel) ⟨Nat.le_of_ble_eq_true rfl, Nat.le_of_ble_eq_true rfl⟩) ⟨kP.blind, k_recv hE hP (ci := 5) (q0 := 0) rfl rfl, k_pre hP hD hS hE hA⟩ rfl rfl hl.1 rfl (lv_room (Nat.le_of_ble_eq_true rfl)) dX5_bad_4 ⟨Nat.zero_le _, Nat.zero_le _⟩) hD hS hA (fun H locs hP hD hS => ?_)
  obtain rfl := o_ret hf
  exact k_iret hx hb hr hP hD hS (Nat.zero_le _) (Nat.zero_le _) hlocks dX5_bad_7
noncomputable def mX5_dayChanged (u : KS) : Option (KS) :=
  some (sI (sI u 0 1) 1 1)
abbrev rmX5_dayChanged : Room := { frames := 0, cells := 0, slots := 0, locals := 0 }
set_option maxRecDepth 100000 in
set_option maxHeartbeats 4000000 in
theorem zX5_dayChanged (l : Launch) (D : va_G) (cy : Nat → ClassId) (sa : Nat → Nat) (q : Nat → Nat) (rest : va_W) (sz : Nat) (u : KS) (res : KS) (hf : mX5_dayChanged u = some res) : kMv l yX5_dayChanged (wsK yX5_dayChanged cX5_dayChanged 1 none) rmX5_dayChanged D cy sa (WX q cy u ++ rest) sz [.ref (q 0)] (WX q cy res ++ rest) 0 0 := by
  refine kM_of (Qc := fun A => kQv D A (WX q cy res ++ rest)) (cc := cX5_dayChanged) (maxL := 1) (ret := none) (by decide) (Nat.le_of_ble_eq_true rfl) ?_
  intro p e s m below meth c A hx hb hml hr hts hown hlocks hin hA hP hD hS hE hsz ls hl
  have hown : s.vm.findClass RX5 = some m.cls := hown
  obtain ⟨H, hH0⟩ : ∃ H, H = s.heap := ⟨_, rfl⟩
  obtain ⟨locs, hlocs0⟩ : ∃ locs : List Loc, locs = [] := ⟨_, rfl⟩
  have hP : va_P D vwCl (WX q cy u ++ rest) H := by rw [hH0]; exact hP
  have hS : va_S A s.heap H locs := by rw [hH0, hlocs0]; exact hS
  have hl : lv_has ls 1 [(0, .ref (q 0))] := hl
  suffices hgoal : W p l e rmX5_dayChanged s m ([.ref (q 0)] : List Value).toArray below meth c H locs 0 0 (MQ below (kQv D A (WX q cy res ++ rest)) ([.ref (q 0)] : List Value).toArray s 0 0 A) (F0 m 0 ls []) by rw [hH0, hlocs0] at hgoal; exact hgoal
  clear hH0 hlocs0
  unfold mX5_dayChanged at hf
  refine lv_aload_n hx hb dX5_dayChanged_0 rfl (lv_at hl 0 rfl) ?_
  refine lv_iconst (v := 1) hx hb dX5_dayChanged_1 (by decide) ?_
  refine va_put (ci := 5) (v := .int 1) (ty := .boolean) (C := RX5) (T := TX5) (N := 9) hx hb hts inlX5 tyX5 tyX5_ok nmX5 hown hE.1 hP hD hS 0 rfl rfl 7 (by decide) (hts _ wB36) (fun _ h9 => h9) rfl (by decide +kernel) rfl rfl (Nat.le_of_ble_eq_true rfl) dX5_dayChanged_2 (fun H locs hP hD hS => ?_)
  have hP : va_P D vwCl (WX q cy (sI u 0 1) ++ rest) H := hP
  have hD : va_D A (WX q cy (sI u 0 1) ++ rest) := hD
  refine lv_aload_n hx hb dX5_dayChanged_5 rfl (lv_at hl 0 rfl) ?_
  refine lv_iconst (v := 1) hx hb dX5_dayChanged_6 (by decide) ?_
  refine va_put (ci := 5) (v := .int 1) (ty := .boolean) (C := RX5) (T := TX5) (N := 9) hx hb hts inlX5 tyX5 tyX5_ok nmX5 hown hE.1 hP hD hS 0 rfl rfl 8 (by decide) (hts _ wB37) (fun _ h9 => h9) rfl (by decide +kernel) rfl rfl (Nat.le_of_ble_eq_true rfl) dX5_dayChanged_7 (fun H locs hP hD hS => ?_)
  have hQ : ∀ (xb : KS) (x0 : Int32) (xn : Int32), (WX q cy (sI xb 0 x0) ++ rest).set 0 (q 0, .inr (5, [.ref (q 3), .ref (q 1), .ref (q 10), .ref (q 15), .ref (q 19), .ref (q 21), .ref (q 2), .int (gI (sI xb 0 x0) 0), .int (gI (sI xb 0 x0) 1)].set 8 (.int xn))) = WX q cy (sI (sI xb 0 x0) 1 xn) ++ rest := fun _ _ _ => rfl
  have hP : va_P D vwCl (WX q cy (sI (sI u 0 1) 1 1) ++ rest) H := k_wP (hQ u 1 1) hP
  have hD : va_D A (WX q cy (sI (sI u 0 1) 1 1) ++ rest) := k_wD (hQ u 1 1) hD
  clear hQ
  obtain rfl := o_ret hf
  exact k_vret hx hb hr hP hD hS (Nat.zero_le _) (Nat.zero_le _) hlocks dX5_dayChanged_10
noncomputable def mX5_clear (u : KS) : Option (Int32 × KS) :=
  (mX5_dayChanged (sI u 2 0)).bind fun r17 =>
  some ((gI u 2), r17)
abbrev rmX5_clear : Room := { frames := 1, cells := 0, slots := 0, locals := 20 }
set_option maxRecDepth 100000 in
set_option maxHeartbeats 4000000 in
theorem zX5_clear (l : Launch) (D : va_G) (cy : Nat → ClassId) (sa : Nat → Nat) (q : Nat → Nat) (rest : va_W) (sz : Nat) (u : KS) (res : Int32 × KS) (hf : mX5_clear u = some res) : kMi l yX5_clear (wsK yX5_clear cX5_clear 2 (some .int)) rmX5_clear D cy sa (WX q cy u ++ rest) sz [.ref (q 0)] res.1 (WX q cy res.2 ++ rest) 0 0 := by
  refine kM_of (Qc := fun A => kQi D A res.1 (WX q cy res.2 ++ rest)) (cc := cX5_clear) (maxL := 2) (ret := (some .int)) (by decide) (Nat.le_of_ble_eq_true rfl) ?_
  intro p e s m below meth c A hx hb hml hr hts hown hlocks hin hA hP hD hS hE hsz ls hl
  have hown : s.vm.findClass RX5 = some m.cls := hown
  obtain ⟨H, hH0⟩ : ∃ H, H = s.heap := ⟨_, rfl⟩
  obtain ⟨locs, hlocs0⟩ : ∃ locs : List Loc, locs = [] := ⟨_, rfl⟩
  have hP : va_P D vwCl (WX q cy u ++ rest) H := by rw [hH0]; exact hP
  have hS : va_S A s.heap H locs := by rw [hH0, hlocs0]; exact hS
  have hl : lv_has ls 2 [(0, .ref (q 0))] := hl
  suffices hgoal : W p l e rmX5_clear s m ([.ref (q 0)] : List Value).toArray below meth c H locs 0 0 (MQ below (kQi D A res.1 (WX q cy res.2 ++ rest)) ([.ref (q 0)] : List Value).toArray s 0 0 A) (F0 m 0 ls []) by rw [hH0, hlocs0] at hgoal; exact hgoal
  clear hH0 hlocs0
  unfold mX5_clear at hf
  refine lv_aload_n hx hb dX5_clear_0 rfl (lv_at hl 0 rfl) ?_
  refine va_get (ci := 5) (v := .ref (q 3)) (C := RX5) (T := TX5) (N := 9) hx hb hts inlX5 hown hE.1 hP 0 rfl rfl 0 (by decide) (hts _ wB16) (fun _ h9 => h9) rfl dX5_clear_1 ?_
  refine va_get (ci := 3) (v := .int (gI u 2)) (C := RX3) (T := TX3) (N := 9) hx hb hts inlX3 hown hE.1 hP 3 rfl rfl 1 (by decide) (hts _ wB100) (fun _ h9 => h9) rfl dX5_clear_4 ?_
  refine lv_istore_n (lv' := [(1, .int (gI u 2)), (0, .ref (q 0))]) hx hb dX5_clear_7 rfl hl (by decide) rfl (fun ls hl => ?_)
  refine lv_aload_n hx hb dX5_clear_8 rfl (lv_at hl 1 rfl) ?_
  refine va_get (ci := 5) (v := .ref (q 3)) (C := RX5) (T := TX5) (N := 9) hx hb hts inlX5 hown hE.1 hP 0 rfl rfl 0 (by decide) (hts _ wB16) (fun _ h9 => h9) rfl dX5_clear_9 ?_
  refine lv_iconst (v := 0) hx hb dX5_clear_12 (by decide) ?_
  refine va_put (ci := 3) (v := .int 0) (ty := .int) (C := RX3) (T := TX3) (N := 9) hx hb hts inlX3 tyX3 tyX3_ok nmX3 hown hE.1 hP hD hS 3 rfl rfl 1 (by decide) (hts _ wB100) (fun _ h9 => h9) rfl (by decide +kernel) rfl rfl (Nat.le_of_ble_eq_true rfl) dX5_clear_13 (fun H locs hP hD hS => ?_)
  have hP : va_P D vwCl (WX q cy (sI u 2 0) ++ rest) H := hP
  have hD : va_D A (WX q cy (sI u 2 0) ++ rest) := hD
  refine lv_aload_n hx hb dX5_clear_16 rfl (lv_at hl 1 rfl) ?_
  obtain ⟨r17, h17r, hf⟩ := o_bs hf
  refine k_gov (va_runV (As := []) (rest := []) ⟨hx, hb, hml, hown, hts⟩ (zX5_dayChanged l D cy sa q rest H.size (sI u 2 0)  r17 h17r) (cwV 0 hts (gB_V wB120 wB121 wB122 wB2 wB123) rfl rfl rfl (by decide +kernel) ⟨Nat.le_of_ble_eq_true rfl, Nat.le_of_ble_eq_true rfl⟩) ⟨kP.blind, k_recv hE hP (ci := 5) (q0 := 0) rfl rfl, k_pre hP hD hS hE hA⟩ rfl rfl hl.1 rfl (lv_room (Nat.le_of_ble_eq_true rfl)) dX5_clear_17 ⟨Nat.zero_le _, Nat.zero_le _⟩) hD hS hA (fun H locs hP hD hS => ?_)
  refine lv_iload_n hx hb dX5_clear_20 rfl (lv_at hl 0 rfl) ?_
  obtain rfl := o_ret hf
  exact k_iret hx hb hr hP hD hS (Nat.zero_le _) (Nat.zero_le _) hlocks dX5_clear_21
noncomputable def mX5_readDay (u : KS) : Option (KS) :=
  if (gI u 0) = 0 then
  (some u)
  else
  ((mX0_read u (gI u 2)).bind fun r25 =>
  (mX5_at 4 (gR r25 2) 0).bind fun r40 =>
  (mX0_heat r25 r40).bind fun r43 =>
  some (sI r43 0 0))
abbrev rmX5_readDay : Room := { frames := 8, cells := 0, slots := 0, locals := 177 }
set_option maxRecDepth 100000 in
set_option maxHeartbeats 4000000 in
theorem zX5_readDay (l : Launch) (D : va_G) (cy : Nat → ClassId) (sa : Nat → Nat) (q : Nat → Nat) (rest : va_W) (sz : Nat) (u : KS) (res : KS) (hf : mX5_readDay u = some res) : kMv l yX5_readDay (wsK yX5_readDay cX5_readDay 1 none) rmX5_readDay D cy sa (WX q cy u ++ rest) sz [.ref (q 0)] (WX q cy res ++ rest) 0 0 := by
  refine kM_of (Qc := fun A => kQv D A (WX q cy res ++ rest)) (cc := cX5_readDay) (maxL := 1) (ret := none) (by decide) (Nat.le_of_ble_eq_true rfl) ?_
  intro p e s m below meth c A hx hb hml hr hts hown hlocks hin hA hP hD hS hE hsz ls hl
  have hown : s.vm.findClass RX5 = some m.cls := hown
  obtain ⟨H, hH0⟩ : ∃ H, H = s.heap := ⟨_, rfl⟩
  obtain ⟨locs, hlocs0⟩ : ∃ locs : List Loc, locs = [] := ⟨_, rfl⟩
  have hP : va_P D vwCl (WX q cy u ++ rest) H := by rw [hH0]; exact hP
  have hS : va_S A s.heap H locs := by rw [hH0, hlocs0]; exact hS
  have hl : lv_has ls 1 [(0, .ref (q 0))] := hl
  suffices hgoal : W p l e rmX5_readDay s m ([.ref (q 0)] : List Value).toArray below meth c H locs 0 0 (MQ below (kQv D A (WX q cy res ++ rest)) ([.ref (q 0)] : List Value).toArray s 0 0 A) (F0 m 0 ls []) by rw [hH0, hlocs0] at hgoal; exact hgoal
  clear hH0 hlocs0
  unfold mX5_readDay at hf
  refine lv_aload_n hx hb dX5_readDay_0 rfl (lv_at hl 0 rfl) ?_
  refine va_get (ci := 5) (v := .int (gI u 0)) (C := RX5) (T := TX5) (N := 9) hx hb hts inlX5 hown hE.1 hP 0 rfl rfl 7 (by decide) (hts _ wB36) (fun _ h9 => h9) rfl dX5_readDay_1 ?_
  refine lv_if_eq (tgt := 51) hx hb dX5_readDay_4 (by decide) (fun c4 => ?_) (fun c4 => ?_)
  · have hf := o_ip c4 hf
    obtain rfl := o_ret hf
    exact k_vret hx hb hr hP hD hS (Nat.zero_le _) (Nat.zero_le _) hlocks dX5_readDay_51
  · have hf := o_in c4 hf
    refine lv_aload_n hx hb dX5_readDay_7 rfl (lv_at hl 0 rfl) ?_
    refine va_get (ci := 5) (v := .ref (q 10)) (C := RX5) (T := TX5) (N := 9) hx hb hts inlX5 hown hE.1 hP 0 rfl rfl 2 (by decide) (hts _ wB21) (fun _ h9 => h9) rfl dX5_readDay_8 ?_
    refine lv_aload_n hx hb dX5_readDay_11 rfl (lv_at hl 0 rfl) ?_
    refine va_get (ci := 5) (v := .ref (q 3)) (C := RX5) (T := TX5) (N := 9) hx hb hts inlX5 hown hE.1 hP 0 rfl rfl 0 (by decide) (hts _ wB16) (fun _ h9 => h9) rfl dX5_readDay_12 ?_
    refine va_get (ci := 3) (v := .ref (q 4)) (C := RX3) (T := TX3) (N := 9) hx hb hts inlX3 hown hE.1 hP 3 rfl rfl 0 (by decide) (hts _ wB101) (fun _ h9 => h9) rfl dX5_readDay_15 ?_
    refine lv_aload_n hx hb dX5_readDay_18 rfl (lv_at hl 0 rfl) ?_
    refine va_get (ci := 5) (v := .ref (q 3)) (C := RX5) (T := TX5) (N := 9) hx hb hts inlX5 hown hE.1 hP 0 rfl rfl 0 (by decide) (hts _ wB16) (fun _ h9 => h9) rfl dX5_readDay_19 ?_
    refine va_get (ci := 3) (v := .int (gI u 2)) (C := RX3) (T := TX3) (N := 9) hx hb hts inlX3 hown hE.1 hP 3 rfl rfl 1 (by decide) (hts _ wB100) (fun _ h9 => h9) rfl dX5_readDay_22 ?_
    obtain ⟨r25, h25r, hf⟩ := o_bs hf
    refine k_gov (va_runV (As := [.ref (q 4), .int (gI u 2)]) (rest := []) ⟨hx, hb, hml, hown, hts⟩ (zX0_read l D cy sa q rest H.size u (gI u 2) r25 h25r) (cwV 2 hts (gB_V wB151 wB152 wB153 wB20 wB154) rfl rfl rfl (by decide +kernel) ⟨Nat.le_of_ble_eq_true rfl, Nat.le_of_ble_eq_true rfl⟩) ⟨kP.blind, k_recv hE hP (ci := 0) (q0 := 10) rfl rfl, k_pre hP hD hS hE hA⟩ rfl rfl hl.1 rfl (lv_room (Nat.le_of_ble_eq_true rfl)) dX5_readDay_25 ⟨Nat.zero_le _, Nat.zero_le _⟩) hD hS hA (fun H locs hP hD hS => ?_)
    refine lv_aload_n hx hb dX5_readDay_28 rfl (lv_at hl 0 rfl) ?_
    refine va_get (ci := 5) (v := .ref (q 10)) (C := RX5) (T := TX5) (N := 9) hx hb hts inlX5 hown hE.1 hP 0 rfl rfl 2 (by decide) (hts _ wB21) (fun _ h9 => h9) rfl dX5_readDay_29 ?_
    refine lv_aload_n hx hb dX5_readDay_32 rfl (lv_at hl 0 rfl) ?_
    refine va_get (ci := 5) (v := .ref (q 3)) (C := RX5) (T := TX5) (N := 9) hx hb hts inlX5 hown hE.1 hP 0 rfl rfl 0 (by decide) (hts _ wB16) (fun _ h9 => h9) rfl dX5_readDay_33 ?_
    refine va_get (ci := 3) (v := .ref (q 5)) (C := RX3) (T := TX3) (N := 9) hx hb hts inlX3 hown hE.1 hP 3 rfl rfl 2 (by decide) (hts _ wB136) (fun _ h9 => h9) rfl dX5_readDay_36 ?_
    refine lv_iconst (v := 0) hx hb dX5_readDay_39 (by decide) ?_
    obtain ⟨r40, h40r, hf⟩ := o_bs hf
    refine k_goi (va_runS (As := [.ref (q 5), .int 0]) (rest := [.ref (q 10)]) ⟨hx, hb, hml, hown, hts⟩ (zX5_at l D cy sa (WX q cy r25 ++ rest) H.size 5 (q 5) 4 (gR r25 2) 0 r40 rfl h40r) (va_cwS 2 hts (gB_S wB110 wB111 wB2 wB112) rfl rfl rfl (by decide +kernel) ⟨Nat.le_of_ble_eq_true rfl, Nat.le_of_ble_eq_true rfl⟩) ⟨kP.blind, k_pre hP hD hS hE hA⟩ rfl rfl hl.1 rfl (lv_room (Nat.le_of_ble_eq_true rfl)) dX5_readDay_40 ⟨Nat.zero_le _, Nat.zero_le _⟩) hD hS hA (fun H locs hP hD hS => ?_)
    obtain ⟨r43, h43r, hf⟩ := o_bs hf
    refine k_gov (va_runV (As := [.int r40]) (rest := []) ⟨hx, hb, hml, hown, hts⟩ (zX0_heat l D cy sa q rest H.size r25 r40 r43 h43r) (cwV 1 hts (gB_V wB245 wB246 wB247 wB20 wB248) rfl rfl rfl (by decide +kernel) ⟨Nat.le_of_ble_eq_true rfl, Nat.le_of_ble_eq_true rfl⟩) ⟨kP.blind, k_recv hE hP (ci := 0) (q0 := 10) rfl rfl, k_pre hP hD hS hE hA⟩ rfl rfl hl.1 rfl (lv_room (Nat.le_of_ble_eq_true rfl)) dX5_readDay_43 ⟨Nat.zero_le _, Nat.zero_le _⟩) hD hS hA (fun H locs hP hD hS => ?_)
    refine lv_aload_n hx hb dX5_readDay_46 rfl (lv_at hl 0 rfl) ?_
    refine lv_iconst (v := 0) hx hb dX5_readDay_47 (by decide) ?_
    refine va_put (ci := 5) (v := .int 0) (ty := .boolean) (C := RX5) (T := TX5) (N := 9) hx hb hts inlX5 tyX5 tyX5_ok nmX5 hown hE.1 hP hD hS 0 rfl rfl 7 (by decide) (hts _ wB36) (fun _ h9 => h9) rfl (by decide +kernel) rfl rfl (Nat.le_of_ble_eq_true rfl) dX5_readDay_48 (fun H locs hP hD hS => ?_)
    have hP : va_P D vwCl (WX q cy (sI r43 0 0) ++ rest) H := hP
    have hD : va_D A (WX q cy (sI r43 0 0) ++ rest) := hD
    obtain rfl := o_ret hf
    exact k_vret hx hb hr hP hD hS (Nat.zero_le _) (Nat.zero_le _) hlocks dX5_readDay_51
noncomputable def mX5_dayIsFaulty (u : KS) : Option (Int32 × KS) :=
  (mX5_readDay u).bind fun r1 =>
  if (gI r1 5) = (-1) then
  (some (0, r1))
  else
  (some (1, r1))
abbrev rmX5_dayIsFaulty : Room := { frames := 9, cells := 0, slots := 0, locals := 197 }
set_option maxRecDepth 100000 in
set_option maxHeartbeats 4000000 in
theorem zX5_dayIsFaulty (l : Launch) (D : va_G) (cy : Nat → ClassId) (sa : Nat → Nat) (q : Nat → Nat) (rest : va_W) (sz : Nat) (u : KS) (res : Int32 × KS) (hf : mX5_dayIsFaulty u = some res) : kMi l yX5_dayIsFaulty (wsK yX5_dayIsFaulty cX5_dayIsFaulty 1 (some .boolean)) rmX5_dayIsFaulty D cy sa (WX q cy u ++ rest) sz [.ref (q 0)] res.1 (WX q cy res.2 ++ rest) 0 0 := by
  refine kM_of (Qc := fun A => kQi D A res.1 (WX q cy res.2 ++ rest)) (cc := cX5_dayIsFaulty) (maxL := 1) (ret := (some .boolean)) (by decide) (Nat.le_of_ble_eq_true rfl) ?_
  intro p e s m below meth c A hx hb hml hr hts hown hlocks hin hA hP hD hS hE hsz ls hl
  have hown : s.vm.findClass RX5 = some m.cls := hown
  obtain ⟨H, hH0⟩ : ∃ H, H = s.heap := ⟨_, rfl⟩
  obtain ⟨locs, hlocs0⟩ : ∃ locs : List Loc, locs = [] := ⟨_, rfl⟩
  have hP : va_P D vwCl (WX q cy u ++ rest) H := by rw [hH0]; exact hP
  have hS : va_S A s.heap H locs := by rw [hH0, hlocs0]; exact hS
  have hl : lv_has ls 1 [(0, .ref (q 0))] := hl
  suffices hgoal : W p l e rmX5_dayIsFaulty s m ([.ref (q 0)] : List Value).toArray below meth c H locs 0 0 (MQ below (kQi D A res.1 (WX q cy res.2 ++ rest)) ([.ref (q 0)] : List Value).toArray s 0 0 A) (F0 m 0 ls []) by rw [hH0, hlocs0] at hgoal; exact hgoal
  clear hH0 hlocs0
  unfold mX5_dayIsFaulty at hf
  refine lv_aload_n hx hb dX5_dayIsFaulty_0 rfl (lv_at hl 0 rfl) ?_
  obtain ⟨r1, h1r, hf⟩ := o_bs hf
  refine k_gov (va_runV (As := []) (rest := []) ⟨hx, hb, hml, hown, hts⟩ (zX5_readDay l D cy sa q rest H.size u  r1 h1r) (cwV 0 hts (gB_V wB147 wB148 wB149 wB2 wB150) rfl rfl rfl (by decide +kernel) ⟨Nat.le_of_ble_eq_true rfl, Nat.le_of_ble_eq_true rfl⟩) ⟨kP.blind, k_recv hE hP (ci := 5) (q0 := 0) rfl rfl, k_pre hP hD hS hE hA⟩ rfl rfl hl.1 rfl (lv_room (Nat.le_of_ble_eq_true rfl)) dX5_dayIsFaulty_1 ⟨Nat.zero_le _, Nat.zero_le _⟩) hD hS hA (fun H locs hP hD hS => ?_)
  refine lv_aload_n hx hb dX5_dayIsFaulty_4 rfl (lv_at hl 0 rfl) ?_
  refine va_get (ci := 5) (v := .ref (q 10)) (C := RX5) (T := TX5) (N := 9) hx hb hts inlX5 hown hE.1 hP 0 rfl rfl 2 (by decide) (hts _ wB21) (fun _ h9 => h9) rfl dX5_dayIsFaulty_5 ?_
  refine va_get (ci := 0) (v := .int (gI r1 5)) (C := RX0) (T := TX0) (N := 9) hx hb hts inlX0 hown hE.1 hP 10 rfl rfl 0 (by decide) (hts _ wB146) (fun _ h9 => h9) rfl dX5_dayIsFaulty_8 ?_
  refine lv_iconst (v := (-1)) hx hb dX5_dayIsFaulty_11 (by decide) ?_
  refine lv_icmp_eq (tgt := 19) hx hb dX5_dayIsFaulty_12 (by decide) (fun c12 => ?_) (fun c12 => ?_)
  · have hf := o_ip c12 hf
    refine lv_iconst (v := 0) hx hb dX5_dayIsFaulty_19 (by decide) ?_
    obtain rfl := o_ret hf
    exact k_zret (v := 0) hx hb hr hP hD hS rfl (Nat.zero_le _) (Nat.zero_le _) hlocks dX5_dayIsFaulty_20
  · have hf := o_in c12 hf
    refine lv_iconst (v := 1) hx hb dX5_dayIsFaulty_15 (by decide) ?_
    refine lv_goto (tgt := 20) hx hb dX5_dayIsFaulty_16 (by decide) ?_
    obtain rfl := o_ret hf
    exact k_zret (v := 1) hx hb hr hP hD hS rfl (Nat.zero_le _) (Nat.zero_le _) hlocks dX5_dayIsFaulty_20
noncomputable def mX5_mixed_s6 (n0 : Nat) (f0 : Nat → Int32) (c3 : Int32) (s6 : Int64 × Int32) : Option ((Int64) ⊕ (Int64 × Int32)) :=
  if c3 ≤ s6.2 then
  (some (.inl s6.1))
  else
  (if (Int32.ofNat n0) ≤ s6.2 then
  (some (.inl s6.1))
  else
  (gd (inb s6.2 n0) (some (.inr (((31 * s6.1) + ((f0 (s6.2.toNatClampNeg)).toInt64)), (s6.2 + 1))))))
noncomputable def mX5_mixed (n0 : Nat) (f0 : Nat → Int32) (a0 : Int64) (a3 : Int32) : Option (Int64) :=
  (lpF (mX5_mixed_s6 n0 f0 a3) (a0, 0)).bind fun e6 =>
  some e6
abbrev rmX5_mixed : Room := { frames := 0, cells := 0, slots := 0, locals := 0 }
set_option maxRecDepth 100000 in
set_option maxHeartbeats 4000000 in
theorem zX5_mixed (l : Launch) (D : va_G) (cy : Nat → ClassId) (sa : Nat → Nat) (ws : va_W) (sz : Nat) (k0 d0 n0 : Nat) (f0 : Nat → Int32) (a0 : Int64) (a3 : Int32) (res : Int64) (ha0 : ws[k0]? = some (kII d0 (cy 0) n0 f0)) (hf : mX5_mixed n0 f0 a0 a3 = some res) : kMl l yX5_mixed (wsK yX5_mixed cX5_mixed 7 (some .long)) rmX5_mixed D cy sa (ws) sz [.long a0, .ref d0, .int a3] res (ws) 0 0 := by
  refine kM_of (Qc := fun A => kQl D A res (ws)) (cc := cX5_mixed) (maxL := 7) (ret := (some .long)) (by decide) (Nat.le_of_ble_eq_true rfl) ?_
  intro p e s m below meth c A hx hb hml hr hts hown hlocks hin hA hP hD hS hE hsz ls hl
  have hown : s.vm.findClass RX5 = some m.cls := hown
  obtain ⟨H, hH0⟩ : ∃ H, H = s.heap := ⟨_, rfl⟩
  obtain ⟨locs, hlocs0⟩ : ∃ locs : List Loc, locs = [] := ⟨_, rfl⟩
  have hP : va_P D vwCl (ws) H := by rw [hH0]; exact hP
  have hS : va_S A s.heap H locs := by rw [hH0, hlocs0]; exact hS
  have hl : lv_has ls 7 [(0, .long a0), (2, .ref d0), (3, .int a3)] := hl
  suffices hgoal : W p l e rmX5_mixed s m ([.long a0, .ref d0, .int a3] : List Value).toArray below meth c H locs 0 0 (MQ below (kQl D A res (ws)) ([.long a0, .ref d0, .int a3] : List Value).toArray s 0 0 A) (F0 m 0 ls []) by rw [hH0, hlocs0] at hgoal; exact hgoal
  clear hH0 hlocs0
  unfold mX5_mixed at hf
  refine lv_lload_n hx hb dX5_mixed_0 rfl (lv_at hl 0 rfl) ?_
  refine lv_lstore (lv' := [(4, .long a0), (0, .long a0), (2, .ref d0), (3, .int a3)]) hx hb dX5_mixed_1 hl (by decide) rfl (fun ls hl => ?_)
  refine lv_iconst (v := 0) hx hb dX5_mixed_3 (by decide) ?_
  refine lv_istore (lv' := [(6, .int 0), (4, .long a0), (0, .long a0), (2, .ref d0), (3, .int a3)]) hx hb dX5_mixed_4 hl (by decide) rfl (fun ls hl => ?_)
  have L6 : ∀ (n6v : Nat) (s6 : Int64 × Int32) (e6 : Int64), lpO (mX5_mixed_s6 n0 f0 a3) n6v s6 = some e6 → ∀ (H : Heap) (locs : List Loc) (ls : Array Slot), va_P D vwCl (ws) H → va_D A (ws) → va_S A s.heap H locs → lv_has ls 7 [(2, .ref d0), (3, .int a3), (4, .long s6.1), (6, .int s6.2)] → (∀ (H : Heap) (locs : List Loc) (ls : Array Slot), va_P D vwCl (ws) H → va_D A (ws) → va_S A s.heap H locs → lv_has ls 7 [(4, .long e6)] → W p l e rmX5_mixed s m ([.long a0, .ref d0, .int a3] : List Value).toArray below meth c H locs 0 0 (MQ below (kQl D A res (ws)) ([.long a0, .ref d0, .int a3] : List Value).toArray s 0 0 A) (F0 m 39 ls [])) → W p l e rmX5_mixed s m ([.long a0, .ref d0, .int a3] : List Value).toArray below meth c H locs 0 0 (MQ below (kQl D A res (ws)) ([.long a0, .ref d0, .int a3] : List Value).toArray s 0 0 A) (F0 m 6 ls []) := by
    intro n6v
    induction n6v with
    | zero => intro s6 e6 h; exact (lpO_z h).elim
    | succ n6v ih6 =>
      intro s6 e6 h6z H locs ls hP hD hS hl K6_0
      obtain ⟨x6, hf, h6z⟩ := lpO_s h6z
      unfold mX5_mixed_s6 at hf
      refine lv_iload hx hb dX5_mixed_6 (lv_at hl 3 rfl) ?_
      refine lv_iload_n hx hb dX5_mixed_8 rfl (lv_at hl 1 rfl) ?_
      refine lv_icmp_ge (tgt := 39) hx hb dX5_mixed_9 (by decide) (fun c9 => ?_) (fun c9 => ?_)
      · have hf := o_ip c9 hf
        obtain rfl := o_ret hf
        obtain rfl := lpK_l h6z
        exact K6_0 _ _ _ hP hD hS (lv_sub hl [2] rfl)
      · have hf := o_in c9 hf
        refine lv_iload hx hb dX5_mixed_12 (lv_at hl 3 rfl) ?_
        refine lv_aload_n hx hb dX5_mixed_14 rfl (lv_at hl 0 rfl) ?_
        refine va_alen (v := (Int32.ofNat n0)) hx hb hE.1 hP k0 0 ha0 rfl rfl dX5_mixed_15 ?_
        refine lv_icmp_ge (tgt := 39) hx hb dX5_mixed_16 (by decide) (fun c16 => ?_) (fun c16 => ?_)
        · have hf := o_ip c16 hf
          obtain rfl := o_ret hf
          obtain rfl := lpK_l h6z
          exact K6_0 _ _ _ hP hD hS (lv_sub hl [2] rfl)
        · have hf := o_in c16 hf
          refine lv_ldc2 (v := 31) hx hb hown (hts _ wB589) dX5_mixed_19 ?_
          refine lv_lload hx hb dX5_mixed_22 (lv_at hl 2 rfl) ?_
          refine lv_lmul hx hb dX5_mixed_24 ?_
          refine lv_aload_n hx hb dX5_mixed_25 rfl (lv_at hl 0 rfl) ?_
          refine lv_iload hx hb dX5_mixed_26 (lv_at hl 3 rfl) ?_
          obtain ⟨hg28, hf⟩ := gd_s hf
          refine va_iald (f := f0) hx hb hE.1 hP k0 0 ha0 rfl hg28 dX5_mixed_28 ?_
          refine lv_i2l (v := ((f0 (s6.2.toNatClampNeg)).toInt64)) hx hb dX5_mixed_29 rfl ?_
          refine lv_ladd hx hb dX5_mixed_30 ?_
          refine lv_lstore (lv' := [(4, .long ((31 * s6.1) + ((f0 (s6.2.toNatClampNeg)).toInt64))), (2, .ref d0), (3, .int a3), (6, .int s6.2)]) hx hb dX5_mixed_31 hl (by decide) rfl (fun ls hl => ?_)
          refine lv_iinc (v := (s6.2 + 1)) (lv' := [(6, .int (s6.2 + 1)), (4, .long ((31 * s6.1) + ((f0 (s6.2.toNatClampNeg)).toInt64))), (2, .ref d0), (3, .int a3)]) hx hb dX5_mixed_33 hl (k := 3) rfl (by rfl) (by decide) rfl (fun ls hl => ?_)
          refine lv_goto (tgt := 6) hx hb dX5_mixed_36 (by decide) ?_
          obtain rfl := o_ret hf
          exact ih6 _ _ (lpK_r h6z) _ _ _ hP hD hS (lv_sub hl [2, 3, 1, 0] rfl) K6_0
  obtain ⟨e6, h6q, hf⟩ := o_bs hf
  obtain ⟨n6v, h6q⟩ := lpF_ex h6q
  refine L6 n6v _ e6 h6q _ _ _ hP hD hS (lv_sub hl [3, 4, 1, 0] rfl) ?_
  intro H locs ls hP hD hS hl
  refine lv_lload hx hb dX5_mixed_39 (lv_at hl 0 rfl) ?_
  obtain rfl := o_ret hf
  exact k_lret hx hb hr hP hD hS (Nat.zero_le _) (Nat.zero_le _) hlocks dX5_mixed_41
noncomputable def mX5_signOf (u : KS) (a1 : Int32) : Option (Int32) :=
  (mX1_limbsOf 3 (gA u 2)).bind fun r7 =>
  if a1 = 0 then
  (if r7 ≤ 0 then
  (some 0)
  else
  (some 1))
  else
  (if a1 = 1 then
  (some r7)
  else
  ((mX1_limbsOf 3 (gA u 3)).bind fun r41 =>
  some r41))
abbrev rmX5_signOf : Room := { frames := 2, cells := 0, slots := 0, locals := 42 }
set_option maxRecDepth 100000 in
set_option maxHeartbeats 4000000 in
theorem zX5_signOf (l : Launch) (D : va_G) (cy : Nat → ClassId) (sa : Nat → Nat) (q : Nat → Nat) (rest : va_W) (sz : Nat) (u : KS) (a1 : Int32) (res : Int32) (hf : mX5_signOf u a1 = some res) : kMi l yX5_signOf (wsK yX5_signOf cX5_signOf 3 (some .int)) rmX5_signOf D cy sa (WX q cy u ++ rest) sz [.ref (q 0), .int a1] res (WX q cy u ++ rest) 0 0 := by
  refine kM_of (Qc := fun A => kQi D A res (WX q cy u ++ rest)) (cc := cX5_signOf) (maxL := 3) (ret := (some .int)) (by decide) (Nat.le_of_ble_eq_true rfl) ?_
  intro p e s m below meth c A hx hb hml hr hts hown hlocks hin hA hP hD hS hE hsz ls hl
  have hown : s.vm.findClass RX5 = some m.cls := hown
  obtain ⟨H, hH0⟩ : ∃ H, H = s.heap := ⟨_, rfl⟩
  obtain ⟨locs, hlocs0⟩ : ∃ locs : List Loc, locs = [] := ⟨_, rfl⟩
  have hP : va_P D vwCl (WX q cy u ++ rest) H := by rw [hH0]; exact hP
  have hS : va_S A s.heap H locs := by rw [hH0, hlocs0]; exact hS
  have hl : lv_has ls 3 [(0, .ref (q 0)), (1, .int a1)] := hl
  suffices hgoal : W p l e rmX5_signOf s m ([.ref (q 0), .int a1] : List Value).toArray below meth c H locs 0 0 (MQ below (kQi D A res (WX q cy u ++ rest)) ([.ref (q 0), .int a1] : List Value).toArray s 0 0 A) (F0 m 0 ls []) by rw [hH0, hlocs0] at hgoal; exact hgoal
  clear hH0 hlocs0
  unfold mX5_signOf at hf
  refine lv_aload_n hx hb dX5_signOf_0 rfl (lv_at hl 0 rfl) ?_
  refine va_get (ci := 5) (v := .ref (q 21)) (C := RX5) (T := TX5) (N := 9) hx hb hts inlX5 hown hE.1 hP 0 rfl rfl 5 (by decide) (hts _ wB33) (fun _ h9 => h9) rfl dX5_signOf_1 ?_
  refine va_get (ci := 1) (v := .ref (q 22)) (C := RX1) (T := TX1) (N := 5) hx hb hts inlX1 hown hE.1 hP 21 rfl rfl 0 (by decide) (hts _ wB453) (fun _ h9 => h9) rfl dX5_signOf_4 ?_
  obtain ⟨r7, h7r, hf⟩ := o_bs hf
  refine k_goi (va_runS (As := [.ref (q 22)]) (rest := []) ⟨hx, hb, hml, hown, hts⟩ (zX1_limbsOf l D cy sa (WX q cy u ++ rest) H.size 22 (q 22) 3 (gA u 2)  r7 rfl h7r) (va_cwS 1 hts (gB_S wB455 wB456 wB32 wB457) rfl rfl rfl (by decide +kernel) ⟨Nat.le_of_ble_eq_true rfl, Nat.le_of_ble_eq_true rfl⟩) ⟨kP.blind, k_pre hP hD hS hE hA⟩ rfl rfl hl.1 rfl (lv_room (Nat.le_of_ble_eq_true rfl)) dX5_signOf_7 ⟨Nat.zero_le _, Nat.zero_le _⟩) hD hS hA (fun H locs hP hD hS => ?_)
  refine lv_istore_n (lv' := [(2, .int r7), (0, .ref (q 0)), (1, .int a1)]) hx hb dX5_signOf_10 rfl hl (by decide) rfl (fun ls hl => ?_)
  refine lv_iload_n hx hb dX5_signOf_11 rfl (lv_at hl 2 rfl) ?_
  refine lv_if_ne (tgt := 25) hx hb dX5_signOf_12 (by decide) (fun c12 => ?_) (fun c12 => ?_)
  · have hf := o_in c12 hf
    refine lv_iload_n hx hb dX5_signOf_25 rfl (lv_at hl 2 rfl) ?_
    refine lv_iconst (v := 1) hx hb dX5_signOf_26 (by decide) ?_
    refine lv_icmp_ne (tgt := 34) hx hb dX5_signOf_27 (by decide) (fun c27 => ?_) (fun c27 => ?_)
    · have hf := o_in c27 hf
      refine lv_aload_n hx hb dX5_signOf_34 rfl (lv_at hl 1 rfl) ?_
      refine va_get (ci := 5) (v := .ref (q 21)) (C := RX5) (T := TX5) (N := 9) hx hb hts inlX5 hown hE.1 hP 0 rfl rfl 5 (by decide) (hts _ wB33) (fun _ h9 => h9) rfl dX5_signOf_35 ?_
      refine va_get (ci := 1) (v := .ref (q 23)) (C := RX1) (T := TX1) (N := 5) hx hb hts inlX1 hown hE.1 hP 21 rfl rfl 1 (by decide) (hts _ wB454) (fun _ h9 => h9) rfl dX5_signOf_38 ?_
      obtain ⟨r41, h41r, hf⟩ := o_bs hf
      refine k_goi (va_runS (As := [.ref (q 23)]) (rest := []) ⟨hx, hb, hml, hown, hts⟩ (zX1_limbsOf l D cy sa (WX q cy u ++ rest) H.size 23 (q 23) 3 (gA u 3)  r41 rfl h41r) (va_cwS 1 hts (gB_S wB455 wB456 wB32 wB457) rfl rfl rfl (by decide +kernel) ⟨Nat.le_of_ble_eq_true rfl, Nat.le_of_ble_eq_true rfl⟩) ⟨kP.blind, k_pre hP hD hS hE hA⟩ rfl rfl hl.1 rfl (lv_room (Nat.le_of_ble_eq_true rfl)) dX5_signOf_41 ⟨Nat.zero_le _, Nat.zero_le _⟩) hD hS hA (fun H locs hP hD hS => ?_)
      obtain rfl := o_ret hf
      exact k_iret hx hb hr hP hD hS (Nat.zero_le _) (Nat.zero_le _) hlocks dX5_signOf_44
    · have hf := o_ip c27 hf
      refine lv_iload_n hx hb dX5_signOf_30 rfl (lv_at hl 0 rfl) ?_
      refine lv_goto (tgt := 44) hx hb dX5_signOf_31 (by decide) ?_
      obtain rfl := o_ret hf
      exact k_iret hx hb hr hP hD hS (Nat.zero_le _) (Nat.zero_le _) hlocks dX5_signOf_44
  · have hf := o_ip c12 hf
    refine lv_iload_n hx hb dX5_signOf_15 rfl (lv_at hl 0 rfl) ?_
    refine lv_if_le (tgt := 23) hx hb dX5_signOf_16 (by decide) (fun c16 => ?_) (fun c16 => ?_)
    · have hf := o_ip c16 hf
      refine lv_iconst (v := 0) hx hb dX5_signOf_23 (by decide) ?_
      obtain rfl := o_ret hf
      exact k_iret hx hb hr hP hD hS (Nat.zero_le _) (Nat.zero_le _) hlocks dX5_signOf_24
    · have hf := o_in c16 hf
      refine lv_iconst (v := 1) hx hb dX5_signOf_19 (by decide) ?_
      refine lv_goto (tgt := 24) hx hb dX5_signOf_20 (by decide) ?_
      obtain rfl := o_ret hf
      exact k_iret hx hb hr hP hD hS (Nat.zero_le _) (Nat.zero_le _) hlocks dX5_signOf_24
noncomputable def mX5_digest_s6 (u : KS) (s6 : Int64 × Int32) : Option ((Int64) ⊕ (Int64 × Int32)) :=
  if 3 < s6.2 then
  (some (.inl s6.1))
  else
  ((mX3_countOf u s6.2).bind fun r21 =>
  some (.inr (((31 * s6.1) + (r21.toInt64)), (s6.2 + 1))))
noncomputable def mX5_digest_s136 (u : KS) (s136 : Int64 × Int32) : Option ((Int64) ⊕ (Int64 × Int32)) :=
  if 2 < s136.2 then
  (some (.inl s136.1))
  else
  ((mX5_signOf u s136.2).bind fun r148 =>
  some (.inr (((31 * s136.1) + (r148.toInt64)), (s136.2 + 1))))
noncomputable def mX5_digest_s170 (u : KS) (c3 : Int32) (s170 : Int64 × Int32) : Option ((Int64) ⊕ (Int64 × Int32)) :=
  (mX5_signOf u (c3 + 1)).bind fun r176 =>
  if r176 ≤ s170.2 then
  (some (.inl s170.1))
  else
  ((mX1_limbOf u c3 s170.2).bind fun r194 =>
  some (.inr (((31 * s170.1) + (r194.toInt64)), (s170.2 + 1))))
noncomputable def mX5_digest_s162 (u : KS) (s162 : Int64 × Int32) : Option ((Int64) ⊕ (Int64 × Int32)) :=
  if 1 < s162.2 then
  (some (.inl s162.1))
  else
  ((lpF (mX5_digest_s170 u s162.2) (s162.1, 0)).bind fun e170 =>
  some (.inr (e170, (s162.2 + 1))))
noncomputable def mX5_digest (u : KS) : Option (Int64) :=
  (lpF (mX5_digest_s6 u) (577, 0)).bind fun e6 =>
  (mX5_mixed 120 (gR u 1) e6 (gI u 2)).bind fun r48 =>
  (mX5_mixed 4 (gR u 2) r48 4).bind fun r61 =>
  (mX5_mixed 7 (gR u 3) r61 7).bind fun r75 =>
  (mX5_mixed 4 (gR u 4) r75 4).bind fun r88 =>
  (mX5_mixed 32 (gR u 5) r88 ((gI u 3) * 4)).bind fun r109 =>
  (mX5_mixed 18 (gR u 6) r109 ((gI u 4) * 3)).bind fun r130 =>
  (lpF (mX5_digest_s136 u) (r130, 0)).bind fun e136 =>
  (lpF (mX5_digest_s162 u) (e136, 0)).bind fun e162 =>
  some e162
abbrev rmX5_digest : Room := { frames := 3, cells := 0, slots := 0, locals := 64 }
set_option maxRecDepth 100000 in
set_option maxHeartbeats 4000000 in
theorem zX5_digest (l : Launch) (D : va_G) (cy : Nat → ClassId) (sa : Nat → Nat) (q : Nat → Nat) (rest : va_W) (sz : Nat) (u : KS) (res : Int64) (hf : mX5_digest u = some res) : kMl l yX5_digest (wsK yX5_digest cX5_digest 5 (some .long)) rmX5_digest D cy sa (WX q cy u ++ rest) sz [.ref (q 0)] res (WX q cy u ++ rest) 0 0 := by
  refine kM_of (Qc := fun A => kQl D A res (WX q cy u ++ rest)) (cc := cX5_digest) (maxL := 5) (ret := (some .long)) (by decide) (Nat.le_of_ble_eq_true rfl) ?_
  intro p e s m below meth c A hx hb hml hr hts hown hlocks hin hA hP hD hS hE hsz ls hl
  have hown : s.vm.findClass RX5 = some m.cls := hown
  obtain ⟨H, hH0⟩ : ∃ H, H = s.heap := ⟨_, rfl⟩
  obtain ⟨locs, hlocs0⟩ : ∃ locs : List Loc, locs = [] := ⟨_, rfl⟩
  have hP : va_P D vwCl (WX q cy u ++ rest) H := by rw [hH0]; exact hP
  have hS : va_S A s.heap H locs := by rw [hH0, hlocs0]; exact hS
  have hl : lv_has ls 5 [(0, .ref (q 0))] := hl
  suffices hgoal : W p l e rmX5_digest s m ([.ref (q 0)] : List Value).toArray below meth c H locs 0 0 (MQ below (kQl D A res (WX q cy u ++ rest)) ([.ref (q 0)] : List Value).toArray s 0 0 A) (F0 m 0 ls []) by rw [hH0, hlocs0] at hgoal; exact hgoal
  clear hH0 hlocs0
  unfold mX5_digest at hf
  refine lv_ldc2 (v := 577) hx hb hown (hts _ wB588) dX5_digest_0 ?_
  refine lv_lstore_n (lv' := [(1, .long 577), (0, .ref (q 0))]) hx hb dX5_digest_3 rfl hl (by decide) rfl (fun ls hl => ?_)
  refine lv_iconst (v := 0) hx hb dX5_digest_4 (by decide) ?_
  refine lv_istore_n (lv' := [(3, .int 0), (1, .long 577), (0, .ref (q 0))]) hx hb dX5_digest_5 rfl hl (by decide) rfl (fun ls hl => ?_)
  have L6 : ∀ (n6v : Nat) (s6 : Int64 × Int32) (e6 : Int64), lpO (mX5_digest_s6 u) n6v s6 = some e6 → ∀ (H : Heap) (locs : List Loc) (ls : Array Slot), va_P D vwCl (WX q cy u ++ rest) H → va_D A (WX q cy u ++ rest) → va_S A s.heap H locs → lv_has ls 5 [(0, .ref (q 0)), (1, .long s6.1), (3, .int s6.2)] → (∀ (H : Heap) (locs : List Loc) (ls : Array Slot), va_P D vwCl (WX q cy u ++ rest) H → va_D A (WX q cy u ++ rest) → va_S A s.heap H locs → lv_has ls 5 [(0, .ref (q 0)), (1, .long e6)] → W p l e rmX5_digest s m ([.ref (q 0)] : List Value).toArray below meth c H locs 0 0 (MQ below (kQl D A res (WX q cy u ++ rest)) ([.ref (q 0)] : List Value).toArray s 0 0 A) (F0 m 33 ls [])) → W p l e rmX5_digest s m ([.ref (q 0)] : List Value).toArray below meth c H locs 0 0 (MQ below (kQl D A res (WX q cy u ++ rest)) ([.ref (q 0)] : List Value).toArray s 0 0 A) (F0 m 6 ls []) := by
    intro n6v
    induction n6v with
    | zero => intro s6 e6 h; exact (lpO_z h).elim
    | succ n6v ih6 =>
      intro s6 e6 h6z H locs ls hP hD hS hl K6_0
      obtain ⟨x6, hf, h6z⟩ := lpO_s h6z
      unfold mX5_digest_s6 at hf
      refine lv_iload_n hx hb dX5_digest_6 rfl (lv_at hl 2 rfl) ?_
      refine lv_iconst (v := 3) hx hb dX5_digest_7 (by decide) ?_
      refine lv_icmp_gt (tgt := 33) hx hb dX5_digest_8 (by decide) (fun c8 => ?_) (fun c8 => ?_)
      · have hf := o_ip c8 hf
        obtain rfl := o_ret hf
        obtain rfl := lpK_l h6z
        exact K6_0 _ _ _ hP hD hS (lv_sub hl [0, 1] rfl)
      · have hf := o_in c8 hf
        refine lv_ldc2 (v := 31) hx hb hown (hts _ wB589) dX5_digest_11 ?_
        refine lv_lload_n hx hb dX5_digest_14 rfl (lv_at hl 1 rfl) ?_
        refine lv_lmul hx hb dX5_digest_15 ?_
        refine lv_aload_n hx hb dX5_digest_16 rfl (lv_at hl 0 rfl) ?_
        refine va_get (ci := 5) (v := .ref (q 3)) (C := RX5) (T := TX5) (N := 9) hx hb hts inlX5 hown hE.1 hP 0 rfl rfl 0 (by decide) (hts _ wB16) (fun _ h9 => h9) rfl dX5_digest_17 ?_
        refine lv_iload_n hx hb dX5_digest_20 rfl (lv_at hl 2 rfl) ?_
        obtain ⟨r21, h21r, hf⟩ := o_bs hf
        refine k_goi (va_runV (As := [.int s6.2]) (rest := [.long (31 * s6.1)]) ⟨hx, hb, hml, hown, hts⟩ (zX3_countOf l D cy sa q rest H.size u s6.2 r21 h21r) (cwV 1 hts (gB_V wB592 wB593 wB594 wB15 wB595) rfl rfl rfl (by decide +kernel) ⟨Nat.le_of_ble_eq_true rfl, Nat.le_of_ble_eq_true rfl⟩) ⟨kP.blind, k_recv hE hP (ci := 3) (q0 := 3) rfl rfl, k_pre hP hD hS hE hA⟩ rfl rfl hl.1 rfl (lv_room (Nat.le_of_ble_eq_true rfl)) dX5_digest_21 ⟨Nat.zero_le _, Nat.zero_le _⟩) hD hS hA (fun H locs hP hD hS => ?_)
        refine lv_i2l (v := (r21.toInt64)) hx hb dX5_digest_24 rfl ?_
        refine lv_ladd hx hb dX5_digest_25 ?_
        refine lv_lstore_n (lv' := [(1, .long ((31 * s6.1) + (r21.toInt64))), (0, .ref (q 0)), (3, .int s6.2)]) hx hb dX5_digest_26 rfl hl (by decide) rfl (fun ls hl => ?_)
        refine lv_iinc (v := (s6.2 + 1)) (lv' := [(3, .int (s6.2 + 1)), (1, .long ((31 * s6.1) + (r21.toInt64))), (0, .ref (q 0))]) hx hb dX5_digest_27 hl (k := 2) rfl (by rfl) (by decide) rfl (fun ls hl => ?_)
        refine lv_goto (tgt := 6) hx hb dX5_digest_30 (by decide) ?_
        obtain rfl := o_ret hf
        exact ih6 _ _ (lpK_r h6z) _ _ _ hP hD hS (lv_sub hl [2, 1, 0] rfl) K6_0
  obtain ⟨e6, h6q, hf⟩ := o_bs hf
  obtain ⟨n6v, h6q⟩ := lpF_ex h6q
  refine L6 n6v _ e6 h6q _ _ _ hP hD hS (lv_sub hl [2, 1, 0] rfl) ?_
  intro H locs ls hP hD hS hl
  refine lv_lload_n hx hb dX5_digest_33 rfl (lv_at hl 1 rfl) ?_
  refine lv_aload_n hx hb dX5_digest_34 rfl (lv_at hl 0 rfl) ?_
  refine va_get (ci := 5) (v := .ref (q 3)) (C := RX5) (T := TX5) (N := 9) hx hb hts inlX5 hown hE.1 hP 0 rfl rfl 0 (by decide) (hts _ wB16) (fun _ h9 => h9) rfl dX5_digest_35 ?_
  refine va_get (ci := 3) (v := .ref (q 4)) (C := RX3) (T := TX3) (N := 9) hx hb hts inlX3 hown hE.1 hP 3 rfl rfl 0 (by decide) (hts _ wB101) (fun _ h9 => h9) rfl dX5_digest_38 ?_
  refine lv_aload_n hx hb dX5_digest_41 rfl (lv_at hl 0 rfl) ?_
  refine va_get (ci := 5) (v := .ref (q 3)) (C := RX5) (T := TX5) (N := 9) hx hb hts inlX5 hown hE.1 hP 0 rfl rfl 0 (by decide) (hts _ wB16) (fun _ h9 => h9) rfl dX5_digest_42 ?_
  refine va_get (ci := 3) (v := .int (gI u 2)) (C := RX3) (T := TX3) (N := 9) hx hb hts inlX3 hown hE.1 hP 3 rfl rfl 1 (by decide) (hts _ wB100) (fun _ h9 => h9) rfl dX5_digest_45 ?_
  obtain ⟨r48, h48r, hf⟩ := o_bs hf
  refine k_gol (va_runS (As := [.long e6, .ref (q 4), .int (gI u 2)]) (rest := []) ⟨hx, hb, hml, hown, hts⟩ (zX5_mixed l D cy sa (WX q cy u ++ rest) H.size 4 (q 4) 120 (gR u 1) e6 (gI u 2) r48 rfl h48r) (va_cwS 3 hts (gB_S wB600 wB601 wB2 wB602) rfl rfl rfl (by decide +kernel) ⟨Nat.le_of_ble_eq_true rfl, Nat.le_of_ble_eq_true rfl⟩) ⟨kP.blind, k_pre hP hD hS hE hA⟩ rfl rfl hl.1 rfl (lv_room (Nat.le_of_ble_eq_true rfl)) dX5_digest_48 ⟨Nat.zero_le _, Nat.zero_le _⟩) hD hS hA (fun H locs hP hD hS => ?_)
  refine lv_lstore_n (lv' := [(1, .long r48), (0, .ref (q 0))]) hx hb dX5_digest_51 rfl hl (by decide) rfl (fun ls hl => ?_)
  refine lv_lload_n hx hb dX5_digest_52 rfl (lv_at hl 0 rfl) ?_
  refine lv_aload_n hx hb dX5_digest_53 rfl (lv_at hl 1 rfl) ?_
  refine va_get (ci := 5) (v := .ref (q 3)) (C := RX5) (T := TX5) (N := 9) hx hb hts inlX5 hown hE.1 hP 0 rfl rfl 0 (by decide) (hts _ wB16) (fun _ h9 => h9) rfl dX5_digest_54 ?_
  refine va_get (ci := 3) (v := .ref (q 5)) (C := RX3) (T := TX3) (N := 9) hx hb hts inlX3 hown hE.1 hP 3 rfl rfl 2 (by decide) (hts _ wB136) (fun _ h9 => h9) rfl dX5_digest_57 ?_
  refine lv_iconst (v := 4) hx hb dX5_digest_60 (by decide) ?_
  obtain ⟨r61, h61r, hf⟩ := o_bs hf
  refine k_gol (va_runS (As := [.long r48, .ref (q 5), .int 4]) (rest := []) ⟨hx, hb, hml, hown, hts⟩ (zX5_mixed l D cy sa (WX q cy u ++ rest) H.size 5 (q 5) 4 (gR u 2) r48 4 r61 rfl h61r) (va_cwS 3 hts (gB_S wB600 wB601 wB2 wB602) rfl rfl rfl (by decide +kernel) ⟨Nat.le_of_ble_eq_true rfl, Nat.le_of_ble_eq_true rfl⟩) ⟨kP.blind, k_pre hP hD hS hE hA⟩ rfl rfl hl.1 rfl (lv_room (Nat.le_of_ble_eq_true rfl)) dX5_digest_61 ⟨Nat.zero_le _, Nat.zero_le _⟩) hD hS hA (fun H locs hP hD hS => ?_)
  refine lv_lstore_n (lv' := [(1, .long r61), (0, .ref (q 0))]) hx hb dX5_digest_64 rfl hl (by decide) rfl (fun ls hl => ?_)
  refine lv_lload_n hx hb dX5_digest_65 rfl (lv_at hl 0 rfl) ?_
  refine lv_aload_n hx hb dX5_digest_66 rfl (lv_at hl 1 rfl) ?_
  refine va_get (ci := 5) (v := .ref (q 3)) (C := RX5) (T := TX5) (N := 9) hx hb hts inlX5 hown hE.1 hP 0 rfl rfl 0 (by decide) (hts _ wB16) (fun _ h9 => h9) rfl dX5_digest_67 ?_
  refine va_get (ci := 3) (v := .ref (q 6)) (C := RX3) (T := TX3) (N := 9) hx hb hts inlX3 hown hE.1 hP 3 rfl rfl 3 (by decide) (hts _ wB271) (fun _ h9 => h9) rfl dX5_digest_70 ?_
  refine lv_bipush (v := 7) hx hb dX5_digest_73 (by decide) ?_
  obtain ⟨r75, h75r, hf⟩ := o_bs hf
  refine k_gol (va_runS (As := [.long r61, .ref (q 6), .int 7]) (rest := []) ⟨hx, hb, hml, hown, hts⟩ (zX5_mixed l D cy sa (WX q cy u ++ rest) H.size 6 (q 6) 7 (gR u 3) r61 7 r75 rfl h75r) (va_cwS 3 hts (gB_S wB600 wB601 wB2 wB602) rfl rfl rfl (by decide +kernel) ⟨Nat.le_of_ble_eq_true rfl, Nat.le_of_ble_eq_true rfl⟩) ⟨kP.blind, k_pre hP hD hS hE hA⟩ rfl rfl hl.1 rfl (lv_room (Nat.le_of_ble_eq_true rfl)) dX5_digest_75 ⟨Nat.zero_le _, Nat.zero_le _⟩) hD hS hA (fun H locs hP hD hS => ?_)
  refine lv_lstore_n (lv' := [(1, .long r75), (0, .ref (q 0))]) hx hb dX5_digest_78 rfl hl (by decide) rfl (fun ls hl => ?_)
  refine lv_lload_n hx hb dX5_digest_79 rfl (lv_at hl 0 rfl) ?_
  refine lv_aload_n hx hb dX5_digest_80 rfl (lv_at hl 1 rfl) ?_
  refine va_get (ci := 5) (v := .ref (q 3)) (C := RX5) (T := TX5) (N := 9) hx hb hts inlX5 hown hE.1 hP 0 rfl rfl 0 (by decide) (hts _ wB16) (fun _ h9 => h9) rfl dX5_digest_81 ?_
  refine va_get (ci := 3) (v := .ref (q 7)) (C := RX3) (T := TX3) (N := 9) hx hb hts inlX3 hown hE.1 hP 3 rfl rfl 4 (by decide) (hts _ wB351) (fun _ h9 => h9) rfl dX5_digest_84 ?_
  refine lv_iconst (v := 4) hx hb dX5_digest_87 (by decide) ?_
  obtain ⟨r88, h88r, hf⟩ := o_bs hf
  refine k_gol (va_runS (As := [.long r75, .ref (q 7), .int 4]) (rest := []) ⟨hx, hb, hml, hown, hts⟩ (zX5_mixed l D cy sa (WX q cy u ++ rest) H.size 7 (q 7) 4 (gR u 4) r75 4 r88 rfl h88r) (va_cwS 3 hts (gB_S wB600 wB601 wB2 wB602) rfl rfl rfl (by decide +kernel) ⟨Nat.le_of_ble_eq_true rfl, Nat.le_of_ble_eq_true rfl⟩) ⟨kP.blind, k_pre hP hD hS hE hA⟩ rfl rfl hl.1 rfl (lv_room (Nat.le_of_ble_eq_true rfl)) dX5_digest_88 ⟨Nat.zero_le _, Nat.zero_le _⟩) hD hS hA (fun H locs hP hD hS => ?_)
  refine lv_lstore_n (lv' := [(1, .long r88), (0, .ref (q 0))]) hx hb dX5_digest_91 rfl hl (by decide) rfl (fun ls hl => ?_)
  refine lv_lload_n hx hb dX5_digest_92 rfl (lv_at hl 0 rfl) ?_
  refine lv_aload_n hx hb dX5_digest_93 rfl (lv_at hl 1 rfl) ?_
  refine va_get (ci := 5) (v := .ref (q 3)) (C := RX5) (T := TX5) (N := 9) hx hb hts inlX5 hown hE.1 hP 0 rfl rfl 0 (by decide) (hts _ wB16) (fun _ h9 => h9) rfl dX5_digest_94 ?_
  refine va_get (ci := 3) (v := .ref (q 8)) (C := RX3) (T := TX3) (N := 9) hx hb hts inlX3 hown hE.1 hP 3 rfl rfl 5 (by decide) (hts _ wB283) (fun _ h9 => h9) rfl dX5_digest_97 ?_
  refine lv_aload_n hx hb dX5_digest_100 rfl (lv_at hl 1 rfl) ?_
  refine va_get (ci := 5) (v := .ref (q 3)) (C := RX5) (T := TX5) (N := 9) hx hb hts inlX5 hown hE.1 hP 0 rfl rfl 0 (by decide) (hts _ wB16) (fun _ h9 => h9) rfl dX5_digest_101 ?_
  refine va_get (ci := 3) (v := .int (gI u 3)) (C := RX3) (T := TX3) (N := 9) hx hb hts inlX3 hown hE.1 hP 3 rfl rfl 6 (by decide) (hts _ wB282) (fun _ h9 => h9) rfl dX5_digest_104 ?_
  refine lv_iconst (v := 4) hx hb dX5_digest_107 (by decide) ?_
  refine lv_imul hx hb dX5_digest_108 ?_
  obtain ⟨r109, h109r, hf⟩ := o_bs hf
  refine k_gol (va_runS (As := [.long r88, .ref (q 8), .int ((gI u 3) * 4)]) (rest := []) ⟨hx, hb, hml, hown, hts⟩ (zX5_mixed l D cy sa (WX q cy u ++ rest) H.size 8 (q 8) 32 (gR u 5) r88 ((gI u 3) * 4) r109 rfl h109r) (va_cwS 3 hts (gB_S wB600 wB601 wB2 wB602) rfl rfl rfl (by decide +kernel) ⟨Nat.le_of_ble_eq_true rfl, Nat.le_of_ble_eq_true rfl⟩) ⟨kP.blind, k_pre hP hD hS hE hA⟩ rfl rfl hl.1 rfl (lv_room (Nat.le_of_ble_eq_true rfl)) dX5_digest_109 ⟨Nat.zero_le _, Nat.zero_le _⟩) hD hS hA (fun H locs hP hD hS => ?_)
  refine lv_lstore_n (lv' := [(1, .long r109), (0, .ref (q 0))]) hx hb dX5_digest_112 rfl hl (by decide) rfl (fun ls hl => ?_)
  refine lv_lload_n hx hb dX5_digest_113 rfl (lv_at hl 0 rfl) ?_
  refine lv_aload_n hx hb dX5_digest_114 rfl (lv_at hl 1 rfl) ?_
  refine va_get (ci := 5) (v := .ref (q 3)) (C := RX5) (T := TX5) (N := 9) hx hb hts inlX5 hown hE.1 hP 0 rfl rfl 0 (by decide) (hts _ wB16) (fun _ h9 => h9) rfl dX5_digest_115 ?_
  refine va_get (ci := 3) (v := .ref (q 9)) (C := RX3) (T := TX3) (N := 9) hx hb hts inlX3 hown hE.1 hP 3 rfl rfl 7 (by decide) (hts _ wB590) (fun _ h9 => h9) rfl dX5_digest_118 ?_
  refine lv_aload_n hx hb dX5_digest_121 rfl (lv_at hl 1 rfl) ?_
  refine va_get (ci := 5) (v := .ref (q 3)) (C := RX5) (T := TX5) (N := 9) hx hb hts inlX5 hown hE.1 hP 0 rfl rfl 0 (by decide) (hts _ wB16) (fun _ h9 => h9) rfl dX5_digest_122 ?_
  refine va_get (ci := 3) (v := .int (gI u 4)) (C := RX3) (T := TX3) (N := 9) hx hb hts inlX3 hown hE.1 hP 3 rfl rfl 8 (by decide) (hts _ wB591) (fun _ h9 => h9) rfl dX5_digest_125 ?_
  refine lv_iconst (v := 3) hx hb dX5_digest_128 (by decide) ?_
  refine lv_imul hx hb dX5_digest_129 ?_
  obtain ⟨r130, h130r, hf⟩ := o_bs hf
  refine k_gol (va_runS (As := [.long r109, .ref (q 9), .int ((gI u 4) * 3)]) (rest := []) ⟨hx, hb, hml, hown, hts⟩ (zX5_mixed l D cy sa (WX q cy u ++ rest) H.size 9 (q 9) 18 (gR u 6) r109 ((gI u 4) * 3) r130 rfl h130r) (va_cwS 3 hts (gB_S wB600 wB601 wB2 wB602) rfl rfl rfl (by decide +kernel) ⟨Nat.le_of_ble_eq_true rfl, Nat.le_of_ble_eq_true rfl⟩) ⟨kP.blind, k_pre hP hD hS hE hA⟩ rfl rfl hl.1 rfl (lv_room (Nat.le_of_ble_eq_true rfl)) dX5_digest_130 ⟨Nat.zero_le _, Nat.zero_le _⟩) hD hS hA (fun H locs hP hD hS => ?_)
  refine lv_lstore_n (lv' := [(1, .long r130), (0, .ref (q 0))]) hx hb dX5_digest_133 rfl hl (by decide) rfl (fun ls hl => ?_)
  refine lv_iconst (v := 0) hx hb dX5_digest_134 (by decide) ?_
  refine lv_istore_n (lv' := [(3, .int 0), (1, .long r130), (0, .ref (q 0))]) hx hb dX5_digest_135 rfl hl (by decide) rfl (fun ls hl => ?_)
  have L136 : ∀ (n136v : Nat) (s136 : Int64 × Int32) (e136 : Int64), lpO (mX5_digest_s136 u) n136v s136 = some e136 → ∀ (H : Heap) (locs : List Loc) (ls : Array Slot), va_P D vwCl (WX q cy u ++ rest) H → va_D A (WX q cy u ++ rest) → va_S A s.heap H locs → lv_has ls 5 [(0, .ref (q 0)), (1, .long s136.1), (3, .int s136.2)] → (∀ (H : Heap) (locs : List Loc) (ls : Array Slot), va_P D vwCl (WX q cy u ++ rest) H → va_D A (WX q cy u ++ rest) → va_S A s.heap H locs → lv_has ls 5 [(0, .ref (q 0)), (1, .long e136)] → W p l e rmX5_digest s m ([.ref (q 0)] : List Value).toArray below meth c H locs 0 0 (MQ below (kQl D A res (WX q cy u ++ rest)) ([.ref (q 0)] : List Value).toArray s 0 0 A) (F0 m 160 ls [])) → W p l e rmX5_digest s m ([.ref (q 0)] : List Value).toArray below meth c H locs 0 0 (MQ below (kQl D A res (WX q cy u ++ rest)) ([.ref (q 0)] : List Value).toArray s 0 0 A) (F0 m 136 ls []) := by
    intro n136v
    induction n136v with
    | zero => intro s136 e136 h; exact (lpO_z h).elim
    | succ n136v ih136 =>
      intro s136 e136 h136z H locs ls hP hD hS hl K136_0
      obtain ⟨x136, hf, h136z⟩ := lpO_s h136z
      unfold mX5_digest_s136 at hf
      refine lv_iload_n hx hb dX5_digest_136 rfl (lv_at hl 2 rfl) ?_
      refine lv_iconst (v := 2) hx hb dX5_digest_137 (by decide) ?_
      refine lv_icmp_gt (tgt := 160) hx hb dX5_digest_138 (by decide) (fun c138 => ?_) (fun c138 => ?_)
      · have hf := o_ip c138 hf
        obtain rfl := o_ret hf
        obtain rfl := lpK_l h136z
        exact K136_0 _ _ _ hP hD hS (lv_sub hl [0, 1] rfl)
      · have hf := o_in c138 hf
        refine lv_ldc2 (v := 31) hx hb hown (hts _ wB589) dX5_digest_141 ?_
        refine lv_lload_n hx hb dX5_digest_144 rfl (lv_at hl 1 rfl) ?_
        refine lv_lmul hx hb dX5_digest_145 ?_
        refine lv_aload_n hx hb dX5_digest_146 rfl (lv_at hl 0 rfl) ?_
        refine lv_iload_n hx hb dX5_digest_147 rfl (lv_at hl 2 rfl) ?_
        obtain ⟨r148, h148r, hf⟩ := o_bs hf
        refine k_goi (va_runV (As := [.int s136.2]) (rest := [.long (31 * s136.1)]) ⟨hx, hb, hml, hown, hts⟩ (zX5_signOf l D cy sa q rest H.size u s136.2 r148 h148r) (cwV 1 hts (gB_V wB449 wB450 wB451 wB2 wB452) rfl rfl rfl (by decide +kernel) ⟨Nat.le_of_ble_eq_true rfl, Nat.le_of_ble_eq_true rfl⟩) ⟨kP.blind, k_recv hE hP (ci := 5) (q0 := 0) rfl rfl, k_pre hP hD hS hE hA⟩ rfl rfl hl.1 rfl (lv_room (Nat.le_of_ble_eq_true rfl)) dX5_digest_148 ⟨Nat.zero_le _, Nat.zero_le _⟩) hD hS hA (fun H locs hP hD hS => ?_)
        refine lv_i2l (v := (r148.toInt64)) hx hb dX5_digest_151 rfl ?_
        refine lv_ladd hx hb dX5_digest_152 ?_
        refine lv_lstore_n (lv' := [(1, .long ((31 * s136.1) + (r148.toInt64))), (0, .ref (q 0)), (3, .int s136.2)]) hx hb dX5_digest_153 rfl hl (by decide) rfl (fun ls hl => ?_)
        refine lv_iinc (v := (s136.2 + 1)) (lv' := [(3, .int (s136.2 + 1)), (1, .long ((31 * s136.1) + (r148.toInt64))), (0, .ref (q 0))]) hx hb dX5_digest_154 hl (k := 2) rfl (by rfl) (by decide) rfl (fun ls hl => ?_)
        refine lv_goto (tgt := 136) hx hb dX5_digest_157 (by decide) ?_
        obtain rfl := o_ret hf
        exact ih136 _ _ (lpK_r h136z) _ _ _ hP hD hS (lv_sub hl [2, 1, 0] rfl) K136_0
  obtain ⟨e136, h136q, hf⟩ := o_bs hf
  obtain ⟨n136v, h136q⟩ := lpF_ex h136q
  refine L136 n136v _ e136 h136q _ _ _ hP hD hS (lv_sub hl [2, 1, 0] rfl) ?_
  intro H locs ls hP hD hS hl
  refine lv_iconst (v := 0) hx hb dX5_digest_160 (by decide) ?_
  refine lv_istore_n (lv' := [(3, .int 0), (0, .ref (q 0)), (1, .long e136)]) hx hb dX5_digest_161 rfl hl (by decide) rfl (fun ls hl => ?_)
  have L162 : ∀ (n162v : Nat) (s162 : Int64 × Int32) (e162 : Int64), lpO (mX5_digest_s162 u) n162v s162 = some e162 → ∀ (H : Heap) (locs : List Loc) (ls : Array Slot), va_P D vwCl (WX q cy u ++ rest) H → va_D A (WX q cy u ++ rest) → va_S A s.heap H locs → lv_has ls 5 [(0, .ref (q 0)), (1, .long s162.1), (3, .int s162.2)] → (∀ (H : Heap) (locs : List Loc) (ls : Array Slot), va_P D vwCl (WX q cy u ++ rest) H → va_D A (WX q cy u ++ rest) → va_S A s.heap H locs → lv_has ls 5 [(1, .long e162)] → W p l e rmX5_digest s m ([.ref (q 0)] : List Value).toArray below meth c H locs 0 0 (MQ below (kQl D A res (WX q cy u ++ rest)) ([.ref (q 0)] : List Value).toArray s 0 0 A) (F0 m 212 ls [])) → W p l e rmX5_digest s m ([.ref (q 0)] : List Value).toArray below meth c H locs 0 0 (MQ below (kQl D A res (WX q cy u ++ rest)) ([.ref (q 0)] : List Value).toArray s 0 0 A) (F0 m 162 ls []) := by
    intro n162v
    induction n162v with
    | zero => intro s162 e162 h; exact (lpO_z h).elim
    | succ n162v ih162 =>
      intro s162 e162 h162z H locs ls hP hD hS hl K162_0
      obtain ⟨x162, hf, h162z⟩ := lpO_s h162z
      unfold mX5_digest_s162 at hf
      refine lv_iload_n hx hb dX5_digest_162 rfl (lv_at hl 2 rfl) ?_
      refine lv_iconst (v := 1) hx hb dX5_digest_163 (by decide) ?_
      refine lv_icmp_gt (tgt := 212) hx hb dX5_digest_164 (by decide) (fun c164 => ?_) (fun c164 => ?_)
      · have hf := o_ip c164 hf
        obtain rfl := o_ret hf
        obtain rfl := lpK_l h162z
        exact K162_0 _ _ _ hP hD hS (lv_sub hl [1] rfl)
      · have hf := o_in c164 hf
        refine lv_iconst (v := 0) hx hb dX5_digest_167 (by decide) ?_
        refine lv_istore (lv' := [(4, .int 0), (0, .ref (q 0)), (1, .long s162.1), (3, .int s162.2)]) hx hb dX5_digest_168 hl (by decide) rfl (fun ls hl => ?_)
        have L170 : ∀ (n170v : Nat) (s170 : Int64 × Int32) (e170 : Int64), lpO (mX5_digest_s170 u s162.2) n170v s170 = some e170 → ∀ (H : Heap) (locs : List Loc) (ls : Array Slot), va_P D vwCl (WX q cy u ++ rest) H → va_D A (WX q cy u ++ rest) → va_S A s.heap H locs → lv_has ls 5 [(0, .ref (q 0)), (1, .long s170.1), (3, .int s162.2), (4, .int s170.2)] → (∀ (H : Heap) (locs : List Loc) (ls : Array Slot), va_P D vwCl (WX q cy u ++ rest) H → va_D A (WX q cy u ++ rest) → va_S A s.heap H locs → lv_has ls 5 [(0, .ref (q 0)), (1, .long e170), (3, .int s162.2)] → W p l e rmX5_digest s m ([.ref (q 0)] : List Value).toArray below meth c H locs 0 0 (MQ below (kQl D A res (WX q cy u ++ rest)) ([.ref (q 0)] : List Value).toArray s 0 0 A) (F0 m 206 ls [])) → W p l e rmX5_digest s m ([.ref (q 0)] : List Value).toArray below meth c H locs 0 0 (MQ below (kQl D A res (WX q cy u ++ rest)) ([.ref (q 0)] : List Value).toArray s 0 0 A) (F0 m 170 ls []) := by
          intro n170v
          induction n170v with
          | zero => intro s170 e170 h; exact (lpO_z h).elim
          | succ n170v ih170 =>
            intro s170 e170 h170z H locs ls hP hD hS hl K170_0
            obtain ⟨x170, hf, h170z⟩ := lpO_s h170z
            unfold mX5_digest_s170 at hf
            refine lv_iload hx hb dX5_digest_170 (lv_at hl 3 rfl) ?_
            refine lv_aload_n hx hb dX5_digest_172 rfl (lv_at hl 0 rfl) ?_
            refine lv_iload_n hx hb dX5_digest_173 rfl (lv_at hl 2 rfl) ?_
            refine lv_iconst (v := 1) hx hb dX5_digest_174 (by decide) ?_
            refine lv_iadd hx hb dX5_digest_175 ?_
            obtain ⟨r176, h176r, hf⟩ := o_bs hf
            refine k_goi (va_runV (As := [.int (s162.2 + 1)]) (rest := [.int s170.2]) ⟨hx, hb, hml, hown, hts⟩ (zX5_signOf l D cy sa q rest H.size u (s162.2 + 1) r176 h176r) (cwV 1 hts (gB_V wB449 wB450 wB451 wB2 wB452) rfl rfl rfl (by decide +kernel) ⟨Nat.le_of_ble_eq_true rfl, Nat.le_of_ble_eq_true rfl⟩) ⟨kP.blind, k_recv hE hP (ci := 5) (q0 := 0) rfl rfl, k_pre hP hD hS hE hA⟩ rfl rfl hl.1 rfl (lv_room (Nat.le_of_ble_eq_true rfl)) dX5_digest_176 ⟨Nat.zero_le _, Nat.zero_le _⟩) hD hS hA (fun H locs hP hD hS => ?_)
            refine lv_icmp_ge (tgt := 206) hx hb dX5_digest_179 (by decide) (fun c179 => ?_) (fun c179 => ?_)
            · have hf := o_ip c179 hf
              obtain rfl := o_ret hf
              obtain rfl := lpK_l h170z
              exact K170_0 _ _ _ hP hD hS (lv_sub hl [0, 1, 2] rfl)
            · have hf := o_in c179 hf
              refine lv_ldc2 (v := 31) hx hb hown (hts _ wB589) dX5_digest_182 ?_
              refine lv_lload_n hx hb dX5_digest_185 rfl (lv_at hl 1 rfl) ?_
              refine lv_lmul hx hb dX5_digest_186 ?_
              refine lv_aload_n hx hb dX5_digest_187 rfl (lv_at hl 0 rfl) ?_
              refine va_get (ci := 5) (v := .ref (q 21)) (C := RX5) (T := TX5) (N := 9) hx hb hts inlX5 hown hE.1 hP 0 rfl rfl 5 (by decide) (hts _ wB33) (fun _ h9 => h9) rfl dX5_digest_188 ?_
              refine lv_iload_n hx hb dX5_digest_191 rfl (lv_at hl 2 rfl) ?_
              refine lv_iload hx hb dX5_digest_192 (lv_at hl 3 rfl) ?_
              obtain ⟨r194, h194r, hf⟩ := o_bs hf
              refine k_goi (va_runV (As := [.int s162.2, .int s170.2]) (rest := [.long (31 * s170.1)]) ⟨hx, hb, hml, hown, hts⟩ (zX1_limbOf l D cy sa q rest H.size u s162.2 s170.2 r194 h194r) (cwV 2 hts (gB_V wB462 wB463 wB464 wB32 wB465) rfl rfl rfl (by decide +kernel) ⟨Nat.le_of_ble_eq_true rfl, Nat.le_of_ble_eq_true rfl⟩) ⟨kP.blind, k_recv hE hP (ci := 1) (q0 := 21) rfl rfl, k_pre hP hD hS hE hA⟩ rfl rfl hl.1 rfl (lv_room (Nat.le_of_ble_eq_true rfl)) dX5_digest_194 ⟨Nat.zero_le _, Nat.zero_le _⟩) hD hS hA (fun H locs hP hD hS => ?_)
              refine lv_i2l (v := (r194.toInt64)) hx hb dX5_digest_197 rfl ?_
              refine lv_ladd hx hb dX5_digest_198 ?_
              refine lv_lstore_n (lv' := [(1, .long ((31 * s170.1) + (r194.toInt64))), (0, .ref (q 0)), (3, .int s162.2), (4, .int s170.2)]) hx hb dX5_digest_199 rfl hl (by decide) rfl (fun ls hl => ?_)
              refine lv_iinc (v := (s170.2 + 1)) (lv' := [(4, .int (s170.2 + 1)), (1, .long ((31 * s170.1) + (r194.toInt64))), (0, .ref (q 0)), (3, .int s162.2)]) hx hb dX5_digest_200 hl (k := 3) rfl (by rfl) (by decide) rfl (fun ls hl => ?_)
              refine lv_goto (tgt := 170) hx hb dX5_digest_203 (by decide) ?_
              obtain rfl := o_ret hf
              exact ih170 _ _ (lpK_r h170z) _ _ _ hP hD hS (lv_sub hl [2, 1, 3, 0] rfl) K170_0
        obtain ⟨e170, h170q, hf⟩ := o_bs hf
        obtain ⟨n170v, h170q⟩ := lpF_ex h170q
        refine L170 n170v _ e170 h170q _ _ _ hP hD hS (lv_sub hl [1, 2, 3, 0] rfl) ?_
        intro H locs ls hP hD hS hl
        refine lv_iinc (v := (s162.2 + 1)) (lv' := [(3, .int (s162.2 + 1)), (0, .ref (q 0)), (1, .long e170)]) hx hb dX5_digest_206 hl (k := 2) rfl (by rfl) (by decide) rfl (fun ls hl => ?_)
        refine lv_goto (tgt := 162) hx hb dX5_digest_209 (by decide) ?_
        obtain rfl := o_ret hf
        exact ih162 _ _ (lpK_r h162z) _ _ _ hP hD hS (lv_sub hl [1, 2, 0] rfl) K162_0
  obtain ⟨e162, h162q, hf⟩ := o_bs hf
  obtain ⟨n162v, h162q⟩ := lpF_ex h162q
  refine L162 n162v _ e162 h162q _ _ _ hP hD hS (lv_sub hl [1, 2, 0] rfl) ?_
  intro H locs ls hP hD hS hl
  refine lv_lload_n hx hb dX5_digest_212 rfl (lv_at hl 0 rfl) ?_
  obtain rfl := o_ret hf
  exact k_lret hx hb hr hP hD hS (Nat.zero_le _) (Nat.zero_le _) hlocks dX5_digest_213
noncomputable def mX5_isDeep (a0 : Int32) : Option (Int32) :=
  if a0 < 1 then
  (some 0)
  else
  (if 3 < a0 then
  (some 0)
  else
  (some 1))
abbrev rmX5_isDeep : Room := { frames := 0, cells := 0, slots := 0, locals := 0 }
set_option maxRecDepth 100000 in
set_option maxHeartbeats 4000000 in
theorem zX5_isDeep (l : Launch) (D : va_G) (cy : Nat → ClassId) (sa : Nat → Nat) (ws : va_W) (sz : Nat) (a0 : Int32) (res : Int32) (hf : mX5_isDeep a0 = some res) : kMi l yX5_isDeep (wsK yX5_isDeep cX5_isDeep 1 (some .boolean)) rmX5_isDeep D cy sa (ws) sz [.int a0] res (ws) 0 0 := by
  refine kM_of (Qc := fun A => kQi D A res (ws)) (cc := cX5_isDeep) (maxL := 1) (ret := (some .boolean)) (by decide) (Nat.le_of_ble_eq_true rfl) ?_
  intro p e s m below meth c A hx hb hml hr hts hown hlocks hin hA hP hD hS hE hsz ls hl
  have hown : s.vm.findClass RX5 = some m.cls := hown
  obtain ⟨H, hH0⟩ : ∃ H, H = s.heap := ⟨_, rfl⟩
  obtain ⟨locs, hlocs0⟩ : ∃ locs : List Loc, locs = [] := ⟨_, rfl⟩
  have hP : va_P D vwCl (ws) H := by rw [hH0]; exact hP
  have hS : va_S A s.heap H locs := by rw [hH0, hlocs0]; exact hS
  have hl : lv_has ls 1 [(0, .int a0)] := hl
  suffices hgoal : W p l e rmX5_isDeep s m ([.int a0] : List Value).toArray below meth c H locs 0 0 (MQ below (kQi D A res (ws)) ([.int a0] : List Value).toArray s 0 0 A) (F0 m 0 ls []) by rw [hH0, hlocs0] at hgoal; exact hgoal
  clear hH0 hlocs0
  unfold mX5_isDeep at hf
  refine lv_iload_n hx hb dX5_isDeep_0 rfl (lv_at hl 0 rfl) ?_
  refine lv_iconst (v := 1) hx hb dX5_isDeep_1 (by decide) ?_
  refine lv_icmp_lt (tgt := 14) hx hb dX5_isDeep_2 (by decide) (fun c2 => ?_) (fun c2 => ?_)
  · have hf := o_ip c2 hf
    refine lv_iconst (v := 0) hx hb dX5_isDeep_14 (by decide) ?_
    obtain rfl := o_ret hf
    exact k_zret (v := 0) hx hb hr hP hD hS rfl (Nat.zero_le _) (Nat.zero_le _) hlocks dX5_isDeep_15
  · have hf := o_in c2 hf
    refine lv_iload_n hx hb dX5_isDeep_5 rfl (lv_at hl 0 rfl) ?_
    refine lv_iconst (v := 3) hx hb dX5_isDeep_6 (by decide) ?_
    refine lv_icmp_gt (tgt := 14) hx hb dX5_isDeep_7 (by decide) (fun c7 => ?_) (fun c7 => ?_)
    · have hf := o_ip c7 hf
      refine lv_iconst (v := 0) hx hb dX5_isDeep_14 (by decide) ?_
      obtain rfl := o_ret hf
      exact k_zret (v := 0) hx hb hr hP hD hS rfl (Nat.zero_le _) (Nat.zero_le _) hlocks dX5_isDeep_15
    · have hf := o_in c7 hf
      refine lv_iconst (v := 1) hx hb dX5_isDeep_10 (by decide) ?_
      refine lv_goto (tgt := 15) hx hb dX5_isDeep_11 (by decide) ?_
      obtain rfl := o_ret hf
      exact k_zret (v := 1) hx hb hr hP hD hS rfl (Nat.zero_le _) (Nat.zero_le _) hlocks dX5_isDeep_15
noncomputable def mX5_isPlan (a0 : Int32) (a1 : Int32) (a2 : Int32) (a3 : Int32) : Option (Int32) :=
  (mX5_isDeep a0).bind fun r1 =>
  if r1 = 0 then
  (some 0)
  else
  (if 10 < a1 then
  (some 0)
  else
  (if a2 < 0 then
  (some 0)
  else
  (if 999 < a2 then
  (some 0)
  else
  (if a3 < 0 then
  (some 0)
  else
  (if 99999 < a3 then
  (some 0)
  else
  (some 1))))))
abbrev rmX5_isPlan : Room := { frames := 1, cells := 0, slots := 0, locals := 20 }
set_option maxRecDepth 100000 in
set_option maxHeartbeats 4000000 in
theorem zX5_isPlan (l : Launch) (D : va_G) (cy : Nat → ClassId) (sa : Nat → Nat) (ws : va_W) (sz : Nat) (a0 : Int32) (a1 : Int32) (a2 : Int32) (a3 : Int32) (res : Int32) (hf : mX5_isPlan a0 a1 a2 a3 = some res) : kMi l yX5_isPlan (wsK yX5_isPlan cX5_isPlan 4 (some .boolean)) rmX5_isPlan D cy sa (ws) sz [.int a0, .int a1, .int a2, .int a3] res (ws) 0 0 := by
  refine kM_of (Qc := fun A => kQi D A res (ws)) (cc := cX5_isPlan) (maxL := 4) (ret := (some .boolean)) (by decide) (Nat.le_of_ble_eq_true rfl) ?_
  intro p e s m below meth c A hx hb hml hr hts hown hlocks hin hA hP hD hS hE hsz ls hl
  have hown : s.vm.findClass RX5 = some m.cls := hown
  obtain ⟨H, hH0⟩ : ∃ H, H = s.heap := ⟨_, rfl⟩
  obtain ⟨locs, hlocs0⟩ : ∃ locs : List Loc, locs = [] := ⟨_, rfl⟩
  have hP : va_P D vwCl (ws) H := by rw [hH0]; exact hP
  have hS : va_S A s.heap H locs := by rw [hH0, hlocs0]; exact hS
  have hl : lv_has ls 4 [(0, .int a0), (1, .int a1), (2, .int a2), (3, .int a3)] := hl
  suffices hgoal : W p l e rmX5_isPlan s m ([.int a0, .int a1, .int a2, .int a3] : List Value).toArray below meth c H locs 0 0 (MQ below (kQi D A res (ws)) ([.int a0, .int a1, .int a2, .int a3] : List Value).toArray s 0 0 A) (F0 m 0 ls []) by rw [hH0, hlocs0] at hgoal; exact hgoal
  clear hH0 hlocs0
  unfold mX5_isPlan at hf
  refine lv_iload_n hx hb dX5_isPlan_0 rfl (lv_at hl 0 rfl) ?_
  obtain ⟨r1, h1r, hf⟩ := o_bs hf
  refine k_goi (va_runS (As := [.int a0]) (rest := []) ⟨hx, hb, hml, hown, hts⟩ (zX5_isDeep l D cy sa (ws) H.size a0  r1  h1r) (va_cwS 1 hts (gB_S wB315 wB316 wB2 wB317) rfl rfl rfl (by decide +kernel) ⟨Nat.le_of_ble_eq_true rfl, Nat.le_of_ble_eq_true rfl⟩) ⟨kP.blind, k_pre hP hD hS hE hA⟩ rfl rfl hl.1 rfl (lv_room (Nat.le_of_ble_eq_true rfl)) dX5_isPlan_1 ⟨Nat.zero_le _, Nat.zero_le _⟩) hD hS hA (fun H locs hP hD hS => ?_)
  refine lv_if_eq (tgt := 38) hx hb dX5_isPlan_4 (by decide) (fun c4 => ?_) (fun c4 => ?_)
  · have hf := o_ip c4 hf
    refine lv_iconst (v := 0) hx hb dX5_isPlan_38 (by decide) ?_
    obtain rfl := o_ret hf
    exact k_zret (v := 0) hx hb hr hP hD hS rfl (Nat.zero_le _) (Nat.zero_le _) hlocks dX5_isPlan_39
  · have hf := o_in c4 hf
    refine lv_iload_n hx hb dX5_isPlan_7 rfl (lv_at hl 1 rfl) ?_
    refine lv_bipush (v := 10) hx hb dX5_isPlan_8 (by decide) ?_
    refine lv_icmp_gt (tgt := 38) hx hb dX5_isPlan_10 (by decide) (fun c10 => ?_) (fun c10 => ?_)
    · have hf := o_ip c10 hf
      refine lv_iconst (v := 0) hx hb dX5_isPlan_38 (by decide) ?_
      obtain rfl := o_ret hf
      exact k_zret (v := 0) hx hb hr hP hD hS rfl (Nat.zero_le _) (Nat.zero_le _) hlocks dX5_isPlan_39
    · have hf := o_in c10 hf
      refine lv_iload_n hx hb dX5_isPlan_13 rfl (lv_at hl 2 rfl) ?_
      refine lv_if_lt (tgt := 38) hx hb dX5_isPlan_14 (by decide) (fun c14 => ?_) (fun c14 => ?_)
      · have hf := o_ip c14 hf
        refine lv_iconst (v := 0) hx hb dX5_isPlan_38 (by decide) ?_
        obtain rfl := o_ret hf
        exact k_zret (v := 0) hx hb hr hP hD hS rfl (Nat.zero_le _) (Nat.zero_le _) hlocks dX5_isPlan_39
      · have hf := o_in c14 hf
        refine lv_iload_n hx hb dX5_isPlan_17 rfl (lv_at hl 2 rfl) ?_
        refine lv_sipush (v := 999) hx hb dX5_isPlan_18 (by decide) ?_
        refine lv_icmp_gt (tgt := 38) hx hb dX5_isPlan_21 (by decide) (fun c21 => ?_) (fun c21 => ?_)
        · have hf := o_ip c21 hf
          refine lv_iconst (v := 0) hx hb dX5_isPlan_38 (by decide) ?_
          obtain rfl := o_ret hf
          exact k_zret (v := 0) hx hb hr hP hD hS rfl (Nat.zero_le _) (Nat.zero_le _) hlocks dX5_isPlan_39
        · have hf := o_in c21 hf
          refine lv_iload_n hx hb dX5_isPlan_24 rfl (lv_at hl 3 rfl) ?_
          refine lv_if_lt (tgt := 38) hx hb dX5_isPlan_25 (by decide) (fun c25 => ?_) (fun c25 => ?_)
          · have hf := o_ip c25 hf
            refine lv_iconst (v := 0) hx hb dX5_isPlan_38 (by decide) ?_
            obtain rfl := o_ret hf
            exact k_zret (v := 0) hx hb hr hP hD hS rfl (Nat.zero_le _) (Nat.zero_le _) hlocks dX5_isPlan_39
          · have hf := o_in c25 hf
            refine lv_iload_n hx hb dX5_isPlan_28 rfl (lv_at hl 3 rfl) ?_
            refine lv_ldc (v := 99999) hx hb hown (hts _ wB478) dX5_isPlan_29 ?_
            refine lv_icmp_gt (tgt := 38) hx hb dX5_isPlan_31 (by decide) (fun c31 => ?_) (fun c31 => ?_)
            · have hf := o_ip c31 hf
              refine lv_iconst (v := 0) hx hb dX5_isPlan_38 (by decide) ?_
              obtain rfl := o_ret hf
              exact k_zret (v := 0) hx hb hr hP hD hS rfl (Nat.zero_le _) (Nat.zero_le _) hlocks dX5_isPlan_39
            · have hf := o_in c31 hf
              refine lv_iconst (v := 1) hx hb dX5_isPlan_34 (by decide) ?_
              refine lv_goto (tgt := 39) hx hb dX5_isPlan_35 (by decide) ?_
              obtain rfl := o_ret hf
              exact k_zret (v := 1) hx hb hr hP hD hS rfl (Nat.zero_le _) (Nat.zero_le _) hlocks dX5_isPlan_39
noncomputable def mX5_drive (u : KS) (a1 : Int32) (a2 : Int32) (a3 : Int32) (a4 : Int32) : Option (Int32 × KS) :=
  if a2 < 1 then
  ((mX5_bad u).bind fun r17 =>
  some (r17.1, r17.2))
  else
  ((mX5_isPlan a1 a2 a3 a4).bind fun r10 =>
  if r10 = 0 then
  ((mX5_bad u).bind fun r17 =>
  some (r17.1, r17.2))
  else
  ((mX4_make u a1 a2 a3 a4).bind fun r30 =>
  some ((gI r30 10), r30)))
abbrev rmX5_drive : Room := { frames := 4, cells := 0, slots := 0, locals := 99 }
set_option maxRecDepth 100000 in
set_option maxHeartbeats 4000000 in
theorem zX5_drive (l : Launch) (D : va_G) (cy : Nat → ClassId) (sa : Nat → Nat) (q : Nat → Nat) (rest : va_W) (sz : Nat) (u : KS) (a1 : Int32) (a2 : Int32) (a3 : Int32) (a4 : Int32) (res : Int32 × KS) (hf : mX5_drive u a1 a2 a3 a4 = some res) : kMi l yX5_drive (wsK yX5_drive cX5_drive 5 (some .int)) rmX5_drive D cy sa (WX q cy u ++ rest) sz [.ref (q 0), .int a1, .int a2, .int a3, .int a4] res.1 (WX q cy res.2 ++ rest) 0 0 := by
  refine kM_of (Qc := fun A => kQi D A res.1 (WX q cy res.2 ++ rest)) (cc := cX5_drive) (maxL := 5) (ret := (some .int)) (by decide) (Nat.le_of_ble_eq_true rfl) ?_
  intro p e s m below meth c A hx hb hml hr hts hown hlocks hin hA hP hD hS hE hsz ls hl
  have hown : s.vm.findClass RX5 = some m.cls := hown
  obtain ⟨H, hH0⟩ : ∃ H, H = s.heap := ⟨_, rfl⟩
  obtain ⟨locs, hlocs0⟩ : ∃ locs : List Loc, locs = [] := ⟨_, rfl⟩
  have hP : va_P D vwCl (WX q cy u ++ rest) H := by rw [hH0]; exact hP
  have hS : va_S A s.heap H locs := by rw [hH0, hlocs0]; exact hS
  have hl : lv_has ls 5 [(0, .ref (q 0)), (1, .int a1), (2, .int a2), (3, .int a3), (4, .int a4)] := hl
  suffices hgoal : W p l e rmX5_drive s m ([.ref (q 0), .int a1, .int a2, .int a3, .int a4] : List Value).toArray below meth c H locs 0 0 (MQ below (kQi D A res.1 (WX q cy res.2 ++ rest)) ([.ref (q 0), .int a1, .int a2, .int a3, .int a4] : List Value).toArray s 0 0 A) (F0 m 0 ls []) by rw [hH0, hlocs0] at hgoal; exact hgoal
  clear hH0 hlocs0
  unfold mX5_drive at hf
  refine lv_iload_n hx hb dX5_drive_0 rfl (lv_at hl 2 rfl) ?_
  refine lv_iconst (v := 1) hx hb dX5_drive_1 (by decide) ?_
  refine lv_icmp_lt (tgt := 16) hx hb dX5_drive_2 (by decide) (fun c2 => ?_) (fun c2 => ?_)
  · have hf := o_ip c2 hf
    refine lv_aload_n hx hb dX5_drive_16 rfl (lv_at hl 0 rfl) ?_
    obtain ⟨r17, h17r, hf⟩ := o_bs hf
    refine k_goi (va_runV (As := []) (rest := []) ⟨hx, hb, hml, hown, hts⟩ (zX5_bad l D cy sa q rest H.size u  r17 h17r) (cwV 0 hts (gB_V wB102 wB103 wB104 wB2 wB105) rfl rfl rfl (by decide +kernel) ⟨Nat.le_of_ble_eq_true rfl, Nat.le_of_ble_eq_true rfl⟩) ⟨kP.blind, k_recv hE hP (ci := 5) (q0 := 0) rfl rfl, k_pre hP hD hS hE hA⟩ rfl rfl hl.1 rfl (lv_room (Nat.le_of_ble_eq_true rfl)) dX5_drive_17 ⟨Nat.zero_le _, Nat.zero_le _⟩) hD hS hA (fun H locs hP hD hS => ?_)
    obtain rfl := o_ret hf
    exact k_iret hx hb hr hP hD hS (Nat.zero_le _) (Nat.zero_le _) hlocks dX5_drive_20
  · have hf := o_in c2 hf
    refine lv_iload_n hx hb dX5_drive_5 rfl (lv_at hl 1 rfl) ?_
    refine lv_iload_n hx hb dX5_drive_6 rfl (lv_at hl 2 rfl) ?_
    refine lv_iload_n hx hb dX5_drive_7 rfl (lv_at hl 3 rfl) ?_
    refine lv_iload hx hb dX5_drive_8 (lv_at hl 4 rfl) ?_
    obtain ⟨r10, h10r, hf⟩ := o_bs hf
    refine k_goi (va_runS (As := [.int a1, .int a2, .int a3, .int a4]) (rest := []) ⟨hx, hb, hml, hown, hts⟩ (zX5_isPlan l D cy sa (WX q cy u ++ rest) H.size a1 a2 a3 a4  r10  h10r) (va_cwS 4 hts (gB_S wB543 wB544 wB2 wB545) rfl rfl rfl (by decide +kernel) ⟨Nat.le_of_ble_eq_true rfl, Nat.le_of_ble_eq_true rfl⟩) ⟨kP.blind, k_pre hP hD hS hE hA⟩ rfl rfl hl.1 rfl (lv_room (Nat.le_of_ble_eq_true rfl)) dX5_drive_10 ⟨Nat.zero_le _, Nat.zero_le _⟩) hD hS hA (fun H locs hP hD hS => ?_)
    refine lv_if_ne (tgt := 21) hx hb dX5_drive_13 (by decide) (fun c13 => ?_) (fun c13 => ?_)
    · have hf := o_in c13 hf
      refine lv_aload_n hx hb dX5_drive_21 rfl (lv_at hl 0 rfl) ?_
      refine va_get (ci := 5) (v := .ref (q 19)) (C := RX5) (T := TX5) (N := 9) hx hb hts inlX5 hown hE.1 hP 0 rfl rfl 4 (by decide) (hts _ wB29) (fun _ h9 => h9) rfl dX5_drive_22 ?_
      refine lv_iload_n hx hb dX5_drive_25 rfl (lv_at hl 1 rfl) ?_
      refine lv_iload_n hx hb dX5_drive_26 rfl (lv_at hl 2 rfl) ?_
      refine lv_iload_n hx hb dX5_drive_27 rfl (lv_at hl 3 rfl) ?_
      refine lv_iload hx hb dX5_drive_28 (lv_at hl 4 rfl) ?_
      obtain ⟨r30, h30r, hf⟩ := o_bs hf
      refine k_gov (va_runV (As := [.int a1, .int a2, .int a3, .int a4]) (rest := []) ⟨hx, hb, hml, hown, hts⟩ (zX4_make l D cy sa q rest H.size u a1 a2 a3 a4 r30 h30r) (cwV 4 hts (gB_V wB546 wB547 wB548 wB28 wB549) rfl rfl rfl (by decide +kernel) ⟨Nat.le_of_ble_eq_true rfl, Nat.le_of_ble_eq_true rfl⟩) ⟨kP.blind, k_recv hE hP (ci := 4) (q0 := 19) rfl rfl, k_pre hP hD hS hE hA⟩ rfl rfl hl.1 rfl (lv_room (Nat.le_of_ble_eq_true rfl)) dX5_drive_30 ⟨Nat.zero_le _, Nat.zero_le _⟩) hD hS hA (fun H locs hP hD hS => ?_)
      refine lv_aload_n hx hb dX5_drive_33 rfl (lv_at hl 0 rfl) ?_
      refine va_get (ci := 5) (v := .ref (q 19)) (C := RX5) (T := TX5) (N := 9) hx hb hts inlX5 hown hE.1 hP 0 rfl rfl 4 (by decide) (hts _ wB29) (fun _ h9 => h9) rfl dX5_drive_34 ?_
      refine va_get (ci := 4) (v := .int (gI r30 10)) (C := RX4) (T := TX4) (N := 3) hx hb hts inlX4 hown hE.1 hP 19 rfl rfl 2 (by decide) (hts _ wB570) (fun _ h9 => h9) rfl dX5_drive_37 ?_
      obtain rfl := o_ret hf
      exact k_iret hx hb hr hP hD hS (Nat.zero_le _) (Nat.zero_le _) hlocks dX5_drive_40
    · have hf := o_ip c13 hf
      refine lv_aload_n hx hb dX5_drive_16 rfl (lv_at hl 0 rfl) ?_
      obtain ⟨r17, h17r, hf⟩ := o_bs hf
      refine k_goi (va_runV (As := []) (rest := []) ⟨hx, hb, hml, hown, hts⟩ (zX5_bad l D cy sa q rest H.size u  r17 h17r) (cwV 0 hts (gB_V wB102 wB103 wB104 wB2 wB105) rfl rfl rfl (by decide +kernel) ⟨Nat.le_of_ble_eq_true rfl, Nat.le_of_ble_eq_true rfl⟩) ⟨kP.blind, k_recv hE hP (ci := 5) (q0 := 0) rfl rfl, k_pre hP hD hS hE hA⟩ rfl rfl hl.1 rfl (lv_room (Nat.le_of_ble_eq_true rfl)) dX5_drive_17 ⟨Nat.zero_le _, Nat.zero_le _⟩) hD hS hA (fun H locs hP hD hS => ?_)
      obtain rfl := o_ret hf
      exact k_iret hx hb hr hP hD hS (Nat.zero_le _) (Nat.zero_le _) hlocks dX5_drive_20
noncomputable def mX5_isFault (a0 : Int32) (a1 : Int32) : Option (Int32) :=
  if a0 < 0 then
  (some 0)
  else
  (if 7 ≤ a0 then
  (some 0)
  else
  ((mX5_isDeep a1).bind fun r11 =>
  if r11 = 0 then
  (some 0)
  else
  (some 1)))
abbrev rmX5_isFault : Room := { frames := 1, cells := 0, slots := 0, locals := 20 }
set_option maxRecDepth 100000 in
set_option maxHeartbeats 4000000 in
theorem zX5_isFault (l : Launch) (D : va_G) (cy : Nat → ClassId) (sa : Nat → Nat) (ws : va_W) (sz : Nat) (a0 : Int32) (a1 : Int32) (res : Int32) (hf : mX5_isFault a0 a1 = some res) : kMi l yX5_isFault (wsK yX5_isFault cX5_isFault 2 (some .boolean)) rmX5_isFault D cy sa (ws) sz [.int a0, .int a1] res (ws) 0 0 := by
  refine kM_of (Qc := fun A => kQi D A res (ws)) (cc := cX5_isFault) (maxL := 2) (ret := (some .boolean)) (by decide) (Nat.le_of_ble_eq_true rfl) ?_
  intro p e s m below meth c A hx hb hml hr hts hown hlocks hin hA hP hD hS hE hsz ls hl
  have hown : s.vm.findClass RX5 = some m.cls := hown
  obtain ⟨H, hH0⟩ : ∃ H, H = s.heap := ⟨_, rfl⟩
  obtain ⟨locs, hlocs0⟩ : ∃ locs : List Loc, locs = [] := ⟨_, rfl⟩
  have hP : va_P D vwCl (ws) H := by rw [hH0]; exact hP
  have hS : va_S A s.heap H locs := by rw [hH0, hlocs0]; exact hS
  have hl : lv_has ls 2 [(0, .int a0), (1, .int a1)] := hl
  suffices hgoal : W p l e rmX5_isFault s m ([.int a0, .int a1] : List Value).toArray below meth c H locs 0 0 (MQ below (kQi D A res (ws)) ([.int a0, .int a1] : List Value).toArray s 0 0 A) (F0 m 0 ls []) by rw [hH0, hlocs0] at hgoal; exact hgoal
  clear hH0 hlocs0
  unfold mX5_isFault at hf
  refine lv_iload_n hx hb dX5_isFault_0 rfl (lv_at hl 0 rfl) ?_
  refine lv_if_lt (tgt := 21) hx hb dX5_isFault_1 (by decide) (fun c1 => ?_) (fun c1 => ?_)
  · have hf := o_ip c1 hf
    refine lv_iconst (v := 0) hx hb dX5_isFault_21 (by decide) ?_
    obtain rfl := o_ret hf
    exact k_zret (v := 0) hx hb hr hP hD hS rfl (Nat.zero_le _) (Nat.zero_le _) hlocks dX5_isFault_22
  · have hf := o_in c1 hf
    refine lv_iload_n hx hb dX5_isFault_4 rfl (lv_at hl 0 rfl) ?_
    refine lv_bipush (v := 7) hx hb dX5_isFault_5 (by decide) ?_
    refine lv_icmp_ge (tgt := 21) hx hb dX5_isFault_7 (by decide) (fun c7 => ?_) (fun c7 => ?_)
    · have hf := o_ip c7 hf
      refine lv_iconst (v := 0) hx hb dX5_isFault_21 (by decide) ?_
      obtain rfl := o_ret hf
      exact k_zret (v := 0) hx hb hr hP hD hS rfl (Nat.zero_le _) (Nat.zero_le _) hlocks dX5_isFault_22
    · have hf := o_in c7 hf
      refine lv_iload_n hx hb dX5_isFault_10 rfl (lv_at hl 1 rfl) ?_
      obtain ⟨r11, h11r, hf⟩ := o_bs hf
      refine k_goi (va_runS (As := [.int a1]) (rest := []) ⟨hx, hb, hml, hown, hts⟩ (zX5_isDeep l D cy sa (ws) H.size a1  r11  h11r) (va_cwS 1 hts (gB_S wB315 wB316 wB2 wB317) rfl rfl rfl (by decide +kernel) ⟨Nat.le_of_ble_eq_true rfl, Nat.le_of_ble_eq_true rfl⟩) ⟨kP.blind, k_pre hP hD hS hE hA⟩ rfl rfl hl.1 rfl (lv_room (Nat.le_of_ble_eq_true rfl)) dX5_isFault_11 ⟨Nat.zero_le _, Nat.zero_le _⟩) hD hS hA (fun H locs hP hD hS => ?_)
      refine lv_if_eq (tgt := 21) hx hb dX5_isFault_14 (by decide) (fun c14 => ?_) (fun c14 => ?_)
      · have hf := o_ip c14 hf
        refine lv_iconst (v := 0) hx hb dX5_isFault_21 (by decide) ?_
        obtain rfl := o_ret hf
        exact k_zret (v := 0) hx hb hr hP hD hS rfl (Nat.zero_le _) (Nat.zero_le _) hlocks dX5_isFault_22
      · have hf := o_in c14 hf
        refine lv_iconst (v := 1) hx hb dX5_isFault_17 (by decide) ?_
        refine lv_goto (tgt := 22) hx hb dX5_isFault_18 (by decide) ?_
        obtain rfl := o_ret hf
        exact k_zret (v := 1) hx hb hr hP hD hS rfl (Nat.zero_le _) (Nat.zero_le _) hlocks dX5_isFault_22
noncomputable def mX5_faultOf (a0 : Int32) (a1 : Int32) : Option (Int32) :=
  some (((3 * a0) + a1) - 1)
abbrev rmX5_faultOf : Room := { frames := 0, cells := 0, slots := 0, locals := 0 }
set_option maxRecDepth 100000 in
set_option maxHeartbeats 4000000 in
theorem zX5_faultOf (l : Launch) (D : va_G) (cy : Nat → ClassId) (sa : Nat → Nat) (ws : va_W) (sz : Nat) (a0 : Int32) (a1 : Int32) (res : Int32) (hf : mX5_faultOf a0 a1 = some res) : kMi l yX5_faultOf (wsK yX5_faultOf cX5_faultOf 2 (some .int)) rmX5_faultOf D cy sa (ws) sz [.int a0, .int a1] res (ws) 0 0 := by
  refine kM_of (Qc := fun A => kQi D A res (ws)) (cc := cX5_faultOf) (maxL := 2) (ret := (some .int)) (by decide) (Nat.le_of_ble_eq_true rfl) ?_
  intro p e s m below meth c A hx hb hml hr hts hown hlocks hin hA hP hD hS hE hsz ls hl
  have hown : s.vm.findClass RX5 = some m.cls := hown
  obtain ⟨H, hH0⟩ : ∃ H, H = s.heap := ⟨_, rfl⟩
  obtain ⟨locs, hlocs0⟩ : ∃ locs : List Loc, locs = [] := ⟨_, rfl⟩
  have hP : va_P D vwCl (ws) H := by rw [hH0]; exact hP
  have hS : va_S A s.heap H locs := by rw [hH0, hlocs0]; exact hS
  have hl : lv_has ls 2 [(0, .int a0), (1, .int a1)] := hl
  suffices hgoal : W p l e rmX5_faultOf s m ([.int a0, .int a1] : List Value).toArray below meth c H locs 0 0 (MQ below (kQi D A res (ws)) ([.int a0, .int a1] : List Value).toArray s 0 0 A) (F0 m 0 ls []) by rw [hH0, hlocs0] at hgoal; exact hgoal
  clear hH0 hlocs0
  unfold mX5_faultOf at hf
  refine lv_iconst (v := 3) hx hb dX5_faultOf_0 (by decide) ?_
  refine lv_iload_n hx hb dX5_faultOf_1 rfl (lv_at hl 0 rfl) ?_
  refine lv_imul hx hb dX5_faultOf_2 ?_
  refine lv_iload_n hx hb dX5_faultOf_3 rfl (lv_at hl 1 rfl) ?_
  refine lv_iadd hx hb dX5_faultOf_4 ?_
  refine lv_iconst (v := 1) hx hb dX5_faultOf_5 (by decide) ?_
  refine lv_isub hx hb dX5_faultOf_6 ?_
  obtain rfl := o_ret hf
  exact k_iret hx hb hr hP hD hS (Nat.zero_le _) (Nat.zero_le _) hlocks dX5_faultOf_7
noncomputable def mX5_fault (u : KS) (a1 : Int32) (a2 : Int32) (a3 : Int32) : Option (Int32 × KS) :=
  if a2 = (-1) then
  (if a3 = 0 then
  (if a1 < 0 then
  ((mX5_bad u).bind fun r39 =>
  some (r39.1, r39.2))
  else
  (if 4 ≤ a1 then
  ((mX5_bad u).bind fun r39 =>
  some (r39.1, r39.2))
  else
  ((mX5_set 4 (gR u 4) a1 (-1)).bind fun r65 =>
  some (1, (sR u 4 r65)))))
  else
  (if a1 < 0 then
  ((mX5_bad u).bind fun r39 =>
  some (r39.1, r39.2))
  else
  (if 4 ≤ a1 then
  ((mX5_bad u).bind fun r39 =>
  some (r39.1, r39.2))
  else
  ((mX5_isFault a2 a3).bind fun r32 =>
  if r32 = 0 then
  ((mX5_bad u).bind fun r39 =>
  some (r39.1, r39.2))
  else
  ((mX5_faultOf a2 a3).bind fun r62 =>
  (mX5_set 4 (gR u 4) a1 r62).bind fun r65 =>
  some (1, (sR u 4 r65)))))))
  else
  (if a1 < 0 then
  ((mX5_bad u).bind fun r39 =>
  some (r39.1, r39.2))
  else
  (if 4 ≤ a1 then
  ((mX5_bad u).bind fun r39 =>
  some (r39.1, r39.2))
  else
  ((mX5_isFault a2 a3).bind fun r32 =>
  if r32 = 0 then
  ((mX5_bad u).bind fun r39 =>
  some (r39.1, r39.2))
  else
  ((mX5_faultOf a2 a3).bind fun r62 =>
  (mX5_set 4 (gR u 4) a1 r62).bind fun r65 =>
  some (1, (sR u 4 r65))))))
abbrev rmX5_fault : Room := { frames := 3, cells := 0, slots := 0, locals := 64 }
set_option maxRecDepth 100000 in
set_option maxHeartbeats 4000000 in
theorem zX5_fault (l : Launch) (D : va_G) (cy : Nat → ClassId) (sa : Nat → Nat) (q : Nat → Nat) (rest : va_W) (sz : Nat) (u : KS) (a1 : Int32) (a2 : Int32) (a3 : Int32) (res : Int32 × KS) (hf : mX5_fault u a1 a2 a3 = some res) : kMi l yX5_fault (wsK yX5_fault cX5_fault 5 (some .int)) rmX5_fault D cy sa (WX q cy u ++ rest) sz [.ref (q 0), .int a1, .int a2, .int a3] res.1 (WX q cy res.2 ++ rest) 0 0 := by
  refine kM_of (Qc := fun A => kQi D A res.1 (WX q cy res.2 ++ rest)) (cc := cX5_fault) (maxL := 5) (ret := (some .int)) (by decide) (Nat.le_of_ble_eq_true rfl) ?_
  intro p e s m below meth c A hx hb hml hr hts hown hlocks hin hA hP hD hS hE hsz ls hl
  have hown : s.vm.findClass RX5 = some m.cls := hown
  obtain ⟨H, hH0⟩ : ∃ H, H = s.heap := ⟨_, rfl⟩
  obtain ⟨locs, hlocs0⟩ : ∃ locs : List Loc, locs = [] := ⟨_, rfl⟩
  have hP : va_P D vwCl (WX q cy u ++ rest) H := by rw [hH0]; exact hP
  have hS : va_S A s.heap H locs := by rw [hH0, hlocs0]; exact hS
  have hl : lv_has ls 5 [(0, .ref (q 0)), (1, .int a1), (2, .int a2), (3, .int a3)] := hl
  suffices hgoal : W p l e rmX5_fault s m ([.ref (q 0), .int a1, .int a2, .int a3] : List Value).toArray below meth c H locs 0 0 (MQ below (kQi D A res.1 (WX q cy res.2 ++ rest)) ([.ref (q 0), .int a1, .int a2, .int a3] : List Value).toArray s 0 0 A) (F0 m 0 ls []) by rw [hH0, hlocs0] at hgoal; exact hgoal
  clear hH0 hlocs0
  unfold mX5_fault at hf
  refine lv_iload_n hx hb dX5_fault_0 rfl (lv_at hl 2 rfl) ?_
  refine lv_iconst (v := (-1)) hx hb dX5_fault_1 (by decide) ?_
  refine lv_icmp_ne (tgt := 13) hx hb dX5_fault_2 (by decide) (fun c2 => ?_) (fun c2 => ?_)
  · have hf := o_in c2 hf
    refine lv_iconst (v := 0) hx hb dX5_fault_13 (by decide) ?_
    refine lv_istore (lv' := [(4, .int 0), (0, .ref (q 0)), (1, .int a1), (2, .int a2), (3, .int a3)]) hx hb dX5_fault_14 hl (by decide) rfl (fun ls hl => ?_)
    refine lv_iload_n hx hb dX5_fault_16 rfl (lv_at hl 2 rfl) ?_
    refine lv_if_lt (tgt := 38) hx hb dX5_fault_17 (by decide) (fun c17 => ?_) (fun c17 => ?_)
    · have hf := o_ip c17 hf
      refine lv_aload_n hx hb dX5_fault_38 rfl (lv_at hl 1 rfl) ?_
      obtain ⟨r39, h39r, hf⟩ := o_bs hf
      refine k_goi (va_runV (As := []) (rest := []) ⟨hx, hb, hml, hown, hts⟩ (zX5_bad l D cy sa q rest H.size u  r39 h39r) (cwV 0 hts (gB_V wB102 wB103 wB104 wB2 wB105) rfl rfl rfl (by decide +kernel) ⟨Nat.le_of_ble_eq_true rfl, Nat.le_of_ble_eq_true rfl⟩) ⟨kP.blind, k_recv hE hP (ci := 5) (q0 := 0) rfl rfl, k_pre hP hD hS hE hA⟩ rfl rfl hl.1 rfl (lv_room (Nat.le_of_ble_eq_true rfl)) dX5_fault_39 ⟨Nat.zero_le _, Nat.zero_le _⟩) hD hS hA (fun H locs hP hD hS => ?_)
      obtain rfl := o_ret hf
      exact k_iret hx hb hr hP hD hS (Nat.zero_le _) (Nat.zero_le _) hlocks dX5_fault_42
    · have hf := o_in c17 hf
      refine lv_iload_n hx hb dX5_fault_20 rfl (lv_at hl 2 rfl) ?_
      refine lv_iconst (v := 4) hx hb dX5_fault_21 (by decide) ?_
      refine lv_icmp_ge (tgt := 38) hx hb dX5_fault_22 (by decide) (fun c22 => ?_) (fun c22 => ?_)
      · have hf := o_ip c22 hf
        refine lv_aload_n hx hb dX5_fault_38 rfl (lv_at hl 1 rfl) ?_
        obtain ⟨r39, h39r, hf⟩ := o_bs hf
        refine k_goi (va_runV (As := []) (rest := []) ⟨hx, hb, hml, hown, hts⟩ (zX5_bad l D cy sa q rest H.size u  r39 h39r) (cwV 0 hts (gB_V wB102 wB103 wB104 wB2 wB105) rfl rfl rfl (by decide +kernel) ⟨Nat.le_of_ble_eq_true rfl, Nat.le_of_ble_eq_true rfl⟩) ⟨kP.blind, k_recv hE hP (ci := 5) (q0 := 0) rfl rfl, k_pre hP hD hS hE hA⟩ rfl rfl hl.1 rfl (lv_room (Nat.le_of_ble_eq_true rfl)) dX5_fault_39 ⟨Nat.zero_le _, Nat.zero_le _⟩) hD hS hA (fun H locs hP hD hS => ?_)
        obtain rfl := o_ret hf
        exact k_iret hx hb hr hP hD hS (Nat.zero_le _) (Nat.zero_le _) hlocks dX5_fault_42
      · have hf := o_in c22 hf
        refine lv_iload hx hb dX5_fault_25 (lv_at hl 0 rfl) ?_
        refine lv_if_ne (tgt := 43) hx hb dX5_fault_27 (by decide) (fun c27 => absurd c27 (by decide)) (fun c27 => ?_)
        refine lv_iload_n hx hb dX5_fault_30 rfl (lv_at hl 3 rfl) ?_
        refine lv_iload_n hx hb dX5_fault_31 rfl (lv_at hl 4 rfl) ?_
        obtain ⟨r32, h32r, hf⟩ := o_bs hf
        refine k_goi (va_runS (As := [.int a2, .int a3]) (rest := []) ⟨hx, hb, hml, hown, hts⟩ (zX5_isFault l D cy sa (WX q cy u ++ rest) H.size a2 a3  r32  h32r) (va_cwS 2 hts (gB_S wB312 wB313 wB2 wB314) rfl rfl rfl (by decide +kernel) ⟨Nat.le_of_ble_eq_true rfl, Nat.le_of_ble_eq_true rfl⟩) ⟨kP.blind, k_pre hP hD hS hE hA⟩ rfl rfl hl.1 rfl (lv_room (Nat.le_of_ble_eq_true rfl)) dX5_fault_32 ⟨Nat.zero_le _, Nat.zero_le _⟩) hD hS hA (fun H locs hP hD hS => ?_)
        refine lv_if_ne (tgt := 43) hx hb dX5_fault_35 (by decide) (fun c35 => ?_) (fun c35 => ?_)
        · have hf := o_in c35 hf
          refine lv_aload_n hx hb dX5_fault_43 rfl (lv_at hl 1 rfl) ?_
          refine va_get (ci := 5) (v := .ref (q 3)) (C := RX5) (T := TX5) (N := 9) hx hb hts inlX5 hown hE.1 hP 0 rfl rfl 0 (by decide) (hts _ wB16) (fun _ h9 => h9) rfl dX5_fault_44 ?_
          refine va_get (ci := 3) (v := .ref (q 7)) (C := RX3) (T := TX3) (N := 9) hx hb hts inlX3 hown hE.1 hP 3 rfl rfl 4 (by decide) (hts _ wB351) (fun _ h9 => h9) rfl dX5_fault_47 ?_
          refine lv_iload_n hx hb dX5_fault_50 rfl (lv_at hl 2 rfl) ?_
          refine lv_iload hx hb dX5_fault_51 (lv_at hl 0 rfl) ?_
          refine lv_if_eq (tgt := 60) hx hb dX5_fault_53 (by decide) (fun c53 => ?_) (fun c53 => absurd c53 (by decide))
          refine lv_iload_n hx hb dX5_fault_60 rfl (lv_at hl 3 rfl) ?_
          refine lv_iload_n hx hb dX5_fault_61 rfl (lv_at hl 4 rfl) ?_
          obtain ⟨r62, h62r, hf⟩ := o_bs hf
          refine k_goi (va_runS (As := [.int a2, .int a3]) (rest := [.int a1, .ref (q 7)]) ⟨hx, hb, hml, hown, hts⟩ (zX5_faultOf l D cy sa (WX q cy u ++ rest) H.size a2 a3  r62  h62r) (va_cwS 2 hts (gB_S wB322 wB323 wB2 wB324) rfl rfl rfl (by decide +kernel) ⟨Nat.le_of_ble_eq_true rfl, Nat.le_of_ble_eq_true rfl⟩) ⟨kP.blind, k_pre hP hD hS hE hA⟩ rfl rfl hl.1 rfl (lv_room (Nat.le_of_ble_eq_true rfl)) dX5_fault_62 ⟨Nat.zero_le _, Nat.zero_le _⟩) hD hS hA (fun H locs hP hD hS => ?_)
          obtain ⟨r65, h65r, hf⟩ := o_bs hf
          refine k_gov (va_runS (As := [.ref (q 7), .int a1, .int r62]) (rest := []) ⟨hx, hb, hml, hown, hts⟩ (zX5_set l D cy sa (WX q cy u ++ rest) H.size 7 (q 7) 4 (gR u 4) a1 r62 r65 rfl h65r) (va_cwS 3 hts (gB_S wB113 wB114 wB2 wB115) rfl rfl rfl (by decide +kernel) ⟨Nat.le_of_ble_eq_true rfl, Nat.le_of_ble_eq_true rfl⟩) ⟨kP.blind, k_pre hP hD hS hE hA⟩ rfl rfl hl.1 rfl (lv_room (Nat.le_of_ble_eq_true rfl)) dX5_fault_65 ⟨Nat.zero_le _, Nat.zero_le _⟩) hD hS hA (fun H locs hP hD hS => ?_)
          have hP : va_P D vwCl (WX q cy (sR u 4 r65) ++ rest) H := hP
          have hD : va_D A (WX q cy (sR u 4 r65) ++ rest) := hD
          refine lv_iconst (v := 1) hx hb dX5_fault_68 (by decide) ?_
          obtain rfl := o_ret hf
          exact k_iret hx hb hr hP hD hS (Nat.zero_le _) (Nat.zero_le _) hlocks dX5_fault_69
        · have hf := o_ip c35 hf
          refine lv_aload_n hx hb dX5_fault_38 rfl (lv_at hl 1 rfl) ?_
          obtain ⟨r39, h39r, hf⟩ := o_bs hf
          refine k_goi (va_runV (As := []) (rest := []) ⟨hx, hb, hml, hown, hts⟩ (zX5_bad l D cy sa q rest H.size u  r39 h39r) (cwV 0 hts (gB_V wB102 wB103 wB104 wB2 wB105) rfl rfl rfl (by decide +kernel) ⟨Nat.le_of_ble_eq_true rfl, Nat.le_of_ble_eq_true rfl⟩) ⟨kP.blind, k_recv hE hP (ci := 5) (q0 := 0) rfl rfl, k_pre hP hD hS hE hA⟩ rfl rfl hl.1 rfl (lv_room (Nat.le_of_ble_eq_true rfl)) dX5_fault_39 ⟨Nat.zero_le _, Nat.zero_le _⟩) hD hS hA (fun H locs hP hD hS => ?_)
          obtain rfl := o_ret hf
          exact k_iret hx hb hr hP hD hS (Nat.zero_le _) (Nat.zero_le _) hlocks dX5_fault_42
  · have hf := o_ip c2 hf
    refine lv_iload_n hx hb dX5_fault_5 rfl (lv_at hl 3 rfl) ?_
    refine lv_if_ne (tgt := 13) hx hb dX5_fault_6 (by decide) (fun c6 => ?_) (fun c6 => ?_)
    · have hf := o_in c6 hf
      refine lv_iconst (v := 0) hx hb dX5_fault_13 (by decide) ?_
      refine lv_istore (lv' := [(4, .int 0), (0, .ref (q 0)), (1, .int a1), (2, .int a2), (3, .int a3)]) hx hb dX5_fault_14 hl (by decide) rfl (fun ls hl => ?_)
      refine lv_iload_n hx hb dX5_fault_16 rfl (lv_at hl 2 rfl) ?_
      refine lv_if_lt (tgt := 38) hx hb dX5_fault_17 (by decide) (fun c17 => ?_) (fun c17 => ?_)
      · have hf := o_ip c17 hf
        refine lv_aload_n hx hb dX5_fault_38 rfl (lv_at hl 1 rfl) ?_
        obtain ⟨r39, h39r, hf⟩ := o_bs hf
        refine k_goi (va_runV (As := []) (rest := []) ⟨hx, hb, hml, hown, hts⟩ (zX5_bad l D cy sa q rest H.size u  r39 h39r) (cwV 0 hts (gB_V wB102 wB103 wB104 wB2 wB105) rfl rfl rfl (by decide +kernel) ⟨Nat.le_of_ble_eq_true rfl, Nat.le_of_ble_eq_true rfl⟩) ⟨kP.blind, k_recv hE hP (ci := 5) (q0 := 0) rfl rfl, k_pre hP hD hS hE hA⟩ rfl rfl hl.1 rfl (lv_room (Nat.le_of_ble_eq_true rfl)) dX5_fault_39 ⟨Nat.zero_le _, Nat.zero_le _⟩) hD hS hA (fun H locs hP hD hS => ?_)
        obtain rfl := o_ret hf
        exact k_iret hx hb hr hP hD hS (Nat.zero_le _) (Nat.zero_le _) hlocks dX5_fault_42
      · have hf := o_in c17 hf
        refine lv_iload_n hx hb dX5_fault_20 rfl (lv_at hl 2 rfl) ?_
        refine lv_iconst (v := 4) hx hb dX5_fault_21 (by decide) ?_
        refine lv_icmp_ge (tgt := 38) hx hb dX5_fault_22 (by decide) (fun c22 => ?_) (fun c22 => ?_)
        · have hf := o_ip c22 hf
          refine lv_aload_n hx hb dX5_fault_38 rfl (lv_at hl 1 rfl) ?_
          obtain ⟨r39, h39r, hf⟩ := o_bs hf
          refine k_goi (va_runV (As := []) (rest := []) ⟨hx, hb, hml, hown, hts⟩ (zX5_bad l D cy sa q rest H.size u  r39 h39r) (cwV 0 hts (gB_V wB102 wB103 wB104 wB2 wB105) rfl rfl rfl (by decide +kernel) ⟨Nat.le_of_ble_eq_true rfl, Nat.le_of_ble_eq_true rfl⟩) ⟨kP.blind, k_recv hE hP (ci := 5) (q0 := 0) rfl rfl, k_pre hP hD hS hE hA⟩ rfl rfl hl.1 rfl (lv_room (Nat.le_of_ble_eq_true rfl)) dX5_fault_39 ⟨Nat.zero_le _, Nat.zero_le _⟩) hD hS hA (fun H locs hP hD hS => ?_)
          obtain rfl := o_ret hf
          exact k_iret hx hb hr hP hD hS (Nat.zero_le _) (Nat.zero_le _) hlocks dX5_fault_42
        · have hf := o_in c22 hf
          refine lv_iload hx hb dX5_fault_25 (lv_at hl 0 rfl) ?_
          refine lv_if_ne (tgt := 43) hx hb dX5_fault_27 (by decide) (fun c27 => absurd c27 (by decide)) (fun c27 => ?_)
          refine lv_iload_n hx hb dX5_fault_30 rfl (lv_at hl 3 rfl) ?_
          refine lv_iload_n hx hb dX5_fault_31 rfl (lv_at hl 4 rfl) ?_
          obtain ⟨r32, h32r, hf⟩ := o_bs hf
          refine k_goi (va_runS (As := [.int a2, .int a3]) (rest := []) ⟨hx, hb, hml, hown, hts⟩ (zX5_isFault l D cy sa (WX q cy u ++ rest) H.size a2 a3  r32  h32r) (va_cwS 2 hts (gB_S wB312 wB313 wB2 wB314) rfl rfl rfl (by decide +kernel) ⟨Nat.le_of_ble_eq_true rfl, Nat.le_of_ble_eq_true rfl⟩) ⟨kP.blind, k_pre hP hD hS hE hA⟩ rfl rfl hl.1 rfl (lv_room (Nat.le_of_ble_eq_true rfl)) dX5_fault_32 ⟨Nat.zero_le _, Nat.zero_le _⟩) hD hS hA (fun H locs hP hD hS => ?_)
          refine lv_if_ne (tgt := 43) hx hb dX5_fault_35 (by decide) (fun c35 => ?_) (fun c35 => ?_)
          · have hf := o_in c35 hf
            refine lv_aload_n hx hb dX5_fault_43 rfl (lv_at hl 1 rfl) ?_
            refine va_get (ci := 5) (v := .ref (q 3)) (C := RX5) (T := TX5) (N := 9) hx hb hts inlX5 hown hE.1 hP 0 rfl rfl 0 (by decide) (hts _ wB16) (fun _ h9 => h9) rfl dX5_fault_44 ?_
            refine va_get (ci := 3) (v := .ref (q 7)) (C := RX3) (T := TX3) (N := 9) hx hb hts inlX3 hown hE.1 hP 3 rfl rfl 4 (by decide) (hts _ wB351) (fun _ h9 => h9) rfl dX5_fault_47 ?_
            refine lv_iload_n hx hb dX5_fault_50 rfl (lv_at hl 2 rfl) ?_
            refine lv_iload hx hb dX5_fault_51 (lv_at hl 0 rfl) ?_
            refine lv_if_eq (tgt := 60) hx hb dX5_fault_53 (by decide) (fun c53 => ?_) (fun c53 => absurd c53 (by decide))
            refine lv_iload_n hx hb dX5_fault_60 rfl (lv_at hl 3 rfl) ?_
            refine lv_iload_n hx hb dX5_fault_61 rfl (lv_at hl 4 rfl) ?_
            obtain ⟨r62, h62r, hf⟩ := o_bs hf
            refine k_goi (va_runS (As := [.int a2, .int a3]) (rest := [.int a1, .ref (q 7)]) ⟨hx, hb, hml, hown, hts⟩ (zX5_faultOf l D cy sa (WX q cy u ++ rest) H.size a2 a3  r62  h62r) (va_cwS 2 hts (gB_S wB322 wB323 wB2 wB324) rfl rfl rfl (by decide +kernel) ⟨Nat.le_of_ble_eq_true rfl, Nat.le_of_ble_eq_true rfl⟩) ⟨kP.blind, k_pre hP hD hS hE hA⟩ rfl rfl hl.1 rfl (lv_room (Nat.le_of_ble_eq_true rfl)) dX5_fault_62 ⟨Nat.zero_le _, Nat.zero_le _⟩) hD hS hA (fun H locs hP hD hS => ?_)
            obtain ⟨r65, h65r, hf⟩ := o_bs hf
            refine k_gov (va_runS (As := [.ref (q 7), .int a1, .int r62]) (rest := []) ⟨hx, hb, hml, hown, hts⟩ (zX5_set l D cy sa (WX q cy u ++ rest) H.size 7 (q 7) 4 (gR u 4) a1 r62 r65 rfl h65r) (va_cwS 3 hts (gB_S wB113 wB114 wB2 wB115) rfl rfl rfl (by decide +kernel) ⟨Nat.le_of_ble_eq_true rfl, Nat.le_of_ble_eq_true rfl⟩) ⟨kP.blind, k_pre hP hD hS hE hA⟩ rfl rfl hl.1 rfl (lv_room (Nat.le_of_ble_eq_true rfl)) dX5_fault_65 ⟨Nat.zero_le _, Nat.zero_le _⟩) hD hS hA (fun H locs hP hD hS => ?_)
            have hP : va_P D vwCl (WX q cy (sR u 4 r65) ++ rest) H := hP
            have hD : va_D A (WX q cy (sR u 4 r65) ++ rest) := hD
            refine lv_iconst (v := 1) hx hb dX5_fault_68 (by decide) ?_
            obtain rfl := o_ret hf
            exact k_iret hx hb hr hP hD hS (Nat.zero_le _) (Nat.zero_le _) hlocks dX5_fault_69
          · have hf := o_ip c35 hf
            refine lv_aload_n hx hb dX5_fault_38 rfl (lv_at hl 1 rfl) ?_
            obtain ⟨r39, h39r, hf⟩ := o_bs hf
            refine k_goi (va_runV (As := []) (rest := []) ⟨hx, hb, hml, hown, hts⟩ (zX5_bad l D cy sa q rest H.size u  r39 h39r) (cwV 0 hts (gB_V wB102 wB103 wB104 wB2 wB105) rfl rfl rfl (by decide +kernel) ⟨Nat.le_of_ble_eq_true rfl, Nat.le_of_ble_eq_true rfl⟩) ⟨kP.blind, k_recv hE hP (ci := 5) (q0 := 0) rfl rfl, k_pre hP hD hS hE hA⟩ rfl rfl hl.1 rfl (lv_room (Nat.le_of_ble_eq_true rfl)) dX5_fault_39 ⟨Nat.zero_le _, Nat.zero_le _⟩) hD hS hA (fun H locs hP hD hS => ?_)
            obtain rfl := o_ret hf
            exact k_iret hx hb hr hP hD hS (Nat.zero_le _) (Nat.zero_le _) hlocks dX5_fault_42
    · have hf := o_ip c6 hf
      refine lv_iconst (v := 1) hx hb dX5_fault_9 (by decide) ?_
      refine lv_goto (tgt := 14) hx hb dX5_fault_10 (by decide) ?_
      refine lv_istore (lv' := [(4, .int 1), (0, .ref (q 0)), (1, .int a1), (2, .int a2), (3, .int a3)]) hx hb dX5_fault_14 hl (by decide) rfl (fun ls hl => ?_)
      refine lv_iload_n hx hb dX5_fault_16 rfl (lv_at hl 2 rfl) ?_
      refine lv_if_lt (tgt := 38) hx hb dX5_fault_17 (by decide) (fun c17 => ?_) (fun c17 => ?_)
      · have hf := o_ip c17 hf
        refine lv_aload_n hx hb dX5_fault_38 rfl (lv_at hl 1 rfl) ?_
        obtain ⟨r39, h39r, hf⟩ := o_bs hf
        refine k_goi (va_runV (As := []) (rest := []) ⟨hx, hb, hml, hown, hts⟩ (zX5_bad l D cy sa q rest H.size u  r39 h39r) (cwV 0 hts (gB_V wB102 wB103 wB104 wB2 wB105) rfl rfl rfl (by decide +kernel) ⟨Nat.le_of_ble_eq_true rfl, Nat.le_of_ble_eq_true rfl⟩) ⟨kP.blind, k_recv hE hP (ci := 5) (q0 := 0) rfl rfl, k_pre hP hD hS hE hA⟩ rfl rfl hl.1 rfl (lv_room (Nat.le_of_ble_eq_true rfl)) dX5_fault_39 ⟨Nat.zero_le _, Nat.zero_le _⟩) hD hS hA (fun H locs hP hD hS => ?_)
        obtain rfl := o_ret hf
        exact k_iret hx hb hr hP hD hS (Nat.zero_le _) (Nat.zero_le _) hlocks dX5_fault_42
      · have hf := o_in c17 hf
        refine lv_iload_n hx hb dX5_fault_20 rfl (lv_at hl 2 rfl) ?_
        refine lv_iconst (v := 4) hx hb dX5_fault_21 (by decide) ?_
        refine lv_icmp_ge (tgt := 38) hx hb dX5_fault_22 (by decide) (fun c22 => ?_) (fun c22 => ?_)
        · have hf := o_ip c22 hf
          refine lv_aload_n hx hb dX5_fault_38 rfl (lv_at hl 1 rfl) ?_
          obtain ⟨r39, h39r, hf⟩ := o_bs hf
          refine k_goi (va_runV (As := []) (rest := []) ⟨hx, hb, hml, hown, hts⟩ (zX5_bad l D cy sa q rest H.size u  r39 h39r) (cwV 0 hts (gB_V wB102 wB103 wB104 wB2 wB105) rfl rfl rfl (by decide +kernel) ⟨Nat.le_of_ble_eq_true rfl, Nat.le_of_ble_eq_true rfl⟩) ⟨kP.blind, k_recv hE hP (ci := 5) (q0 := 0) rfl rfl, k_pre hP hD hS hE hA⟩ rfl rfl hl.1 rfl (lv_room (Nat.le_of_ble_eq_true rfl)) dX5_fault_39 ⟨Nat.zero_le _, Nat.zero_le _⟩) hD hS hA (fun H locs hP hD hS => ?_)
          obtain rfl := o_ret hf
          exact k_iret hx hb hr hP hD hS (Nat.zero_le _) (Nat.zero_le _) hlocks dX5_fault_42
        · have hf := o_in c22 hf
          refine lv_iload hx hb dX5_fault_25 (lv_at hl 0 rfl) ?_
          refine lv_if_ne (tgt := 43) hx hb dX5_fault_27 (by decide) (fun c27 => ?_) (fun c27 => absurd c27 (by decide))
          refine lv_aload_n hx hb dX5_fault_43 rfl (lv_at hl 1 rfl) ?_
          refine va_get (ci := 5) (v := .ref (q 3)) (C := RX5) (T := TX5) (N := 9) hx hb hts inlX5 hown hE.1 hP 0 rfl rfl 0 (by decide) (hts _ wB16) (fun _ h9 => h9) rfl dX5_fault_44 ?_
          refine va_get (ci := 3) (v := .ref (q 7)) (C := RX3) (T := TX3) (N := 9) hx hb hts inlX3 hown hE.1 hP 3 rfl rfl 4 (by decide) (hts _ wB351) (fun _ h9 => h9) rfl dX5_fault_47 ?_
          refine lv_iload_n hx hb dX5_fault_50 rfl (lv_at hl 2 rfl) ?_
          refine lv_iload hx hb dX5_fault_51 (lv_at hl 0 rfl) ?_
          refine lv_if_eq (tgt := 60) hx hb dX5_fault_53 (by decide) (fun c53 => absurd c53 (by decide)) (fun c53 => ?_)
          refine lv_iconst (v := (-1)) hx hb dX5_fault_56 (by decide) ?_
          refine lv_goto (tgt := 65) hx hb dX5_fault_57 (by decide) ?_
          obtain ⟨r65, h65r, hf⟩ := o_bs hf
          refine k_gov (va_runS (As := [.ref (q 7), .int a1, .int (-1)]) (rest := []) ⟨hx, hb, hml, hown, hts⟩ (zX5_set l D cy sa (WX q cy u ++ rest) H.size 7 (q 7) 4 (gR u 4) a1 (-1) r65 rfl h65r) (va_cwS 3 hts (gB_S wB113 wB114 wB2 wB115) rfl rfl rfl (by decide +kernel) ⟨Nat.le_of_ble_eq_true rfl, Nat.le_of_ble_eq_true rfl⟩) ⟨kP.blind, k_pre hP hD hS hE hA⟩ rfl rfl hl.1 rfl (lv_room (Nat.le_of_ble_eq_true rfl)) dX5_fault_65 ⟨Nat.zero_le _, Nat.zero_le _⟩) hD hS hA (fun H locs hP hD hS => ?_)
          have hP : va_P D vwCl (WX q cy (sR u 4 r65) ++ rest) H := hP
          have hD : va_D A (WX q cy (sR u 4 r65) ++ rest) := hD
          refine lv_iconst (v := 1) hx hb dX5_fault_68 (by decide) ?_
          obtain rfl := o_ret hf
          exact k_iret hx hb hr hP hD hS (Nat.zero_le _) (Nat.zero_le _) hlocks dX5_fault_69
noncomputable def mX5_faulty (u : KS) : Option (Int32 × KS) :=
  (mX5_readDay u).bind fun r1 =>
  some ((gI r1 5), r1)
abbrev rmX5_faulty : Room := { frames := 9, cells := 0, slots := 0, locals := 197 }
set_option maxRecDepth 100000 in
set_option maxHeartbeats 4000000 in
theorem zX5_faulty (l : Launch) (D : va_G) (cy : Nat → ClassId) (sa : Nat → Nat) (q : Nat → Nat) (rest : va_W) (sz : Nat) (u : KS) (res : Int32 × KS) (hf : mX5_faulty u = some res) : kMi l yX5_faulty (wsK yX5_faulty cX5_faulty 1 (some .int)) rmX5_faulty D cy sa (WX q cy u ++ rest) sz [.ref (q 0)] res.1 (WX q cy res.2 ++ rest) 0 0 := by
  refine kM_of (Qc := fun A => kQi D A res.1 (WX q cy res.2 ++ rest)) (cc := cX5_faulty) (maxL := 1) (ret := (some .int)) (by decide) (Nat.le_of_ble_eq_true rfl) ?_
  intro p e s m below meth c A hx hb hml hr hts hown hlocks hin hA hP hD hS hE hsz ls hl
  have hown : s.vm.findClass RX5 = some m.cls := hown
  obtain ⟨H, hH0⟩ : ∃ H, H = s.heap := ⟨_, rfl⟩
  obtain ⟨locs, hlocs0⟩ : ∃ locs : List Loc, locs = [] := ⟨_, rfl⟩
  have hP : va_P D vwCl (WX q cy u ++ rest) H := by rw [hH0]; exact hP
  have hS : va_S A s.heap H locs := by rw [hH0, hlocs0]; exact hS
  have hl : lv_has ls 1 [(0, .ref (q 0))] := hl
  suffices hgoal : W p l e rmX5_faulty s m ([.ref (q 0)] : List Value).toArray below meth c H locs 0 0 (MQ below (kQi D A res.1 (WX q cy res.2 ++ rest)) ([.ref (q 0)] : List Value).toArray s 0 0 A) (F0 m 0 ls []) by rw [hH0, hlocs0] at hgoal; exact hgoal
  clear hH0 hlocs0
  unfold mX5_faulty at hf
  refine lv_aload_n hx hb dX5_faulty_0 rfl (lv_at hl 0 rfl) ?_
  obtain ⟨r1, h1r, hf⟩ := o_bs hf
  refine k_gov (va_runV (As := []) (rest := []) ⟨hx, hb, hml, hown, hts⟩ (zX5_readDay l D cy sa q rest H.size u  r1 h1r) (cwV 0 hts (gB_V wB147 wB148 wB149 wB2 wB150) rfl rfl rfl (by decide +kernel) ⟨Nat.le_of_ble_eq_true rfl, Nat.le_of_ble_eq_true rfl⟩) ⟨kP.blind, k_recv hE hP (ci := 5) (q0 := 0) rfl rfl, k_pre hP hD hS hE hA⟩ rfl rfl hl.1 rfl (lv_room (Nat.le_of_ble_eq_true rfl)) dX5_faulty_1 ⟨Nat.zero_le _, Nat.zero_le _⟩) hD hS hA (fun H locs hP hD hS => ?_)
  refine lv_aload_n hx hb dX5_faulty_4 rfl (lv_at hl 0 rfl) ?_
  refine va_get (ci := 5) (v := .ref (q 10)) (C := RX5) (T := TX5) (N := 9) hx hb hts inlX5 hown hE.1 hP 0 rfl rfl 2 (by decide) (hts _ wB21) (fun _ h9 => h9) rfl dX5_faulty_5 ?_
  refine va_get (ci := 0) (v := .int (gI r1 5)) (C := RX0) (T := TX0) (N := 9) hx hb hts inlX0 hown hE.1 hP 10 rfl rfl 0 (by decide) (hts _ wB146) (fun _ h9 => h9) rfl dX5_faulty_8 ?_
  obtain rfl := o_ret hf
  exact k_iret hx hb hr hP hD hS (Nat.zero_le _) (Nat.zero_le _) hlocks dX5_faulty_11
noncomputable def mX5_full (u : KS) : Option (Int32 × KS) :=
  (mX5_refuse u 2 (-4)).bind fun r4 =>
  some (r4.1, r4.2)
abbrev rmX5_full : Room := { frames := 2, cells := 0, slots := 0, locals := 44 }
set_option maxRecDepth 100000 in
set_option maxHeartbeats 4000000 in
theorem zX5_full (l : Launch) (D : va_G) (cy : Nat → ClassId) (sa : Nat → Nat) (q : Nat → Nat) (rest : va_W) (sz : Nat) (u : KS) (res : Int32 × KS) (hf : mX5_full u = some res) : kMi l yX5_full (wsK yX5_full cX5_full 1 (some .int)) rmX5_full D cy sa (WX q cy u ++ rest) sz [.ref (q 0)] res.1 (WX q cy res.2 ++ rest) 0 0 := by
  refine kM_of (Qc := fun A => kQi D A res.1 (WX q cy res.2 ++ rest)) (cc := cX5_full) (maxL := 1) (ret := (some .int)) (by decide) (Nat.le_of_ble_eq_true rfl) ?_
  intro p e s m below meth c A hx hb hml hr hts hown hlocks hin hA hP hD hS hE hsz ls hl
  have hown : s.vm.findClass RX5 = some m.cls := hown
  obtain ⟨H, hH0⟩ : ∃ H, H = s.heap := ⟨_, rfl⟩
  obtain ⟨locs, hlocs0⟩ : ∃ locs : List Loc, locs = [] := ⟨_, rfl⟩
  have hP : va_P D vwCl (WX q cy u ++ rest) H := by rw [hH0]; exact hP
  have hS : va_S A s.heap H locs := by rw [hH0, hlocs0]; exact hS
  have hl : lv_has ls 1 [(0, .ref (q 0))] := hl
  suffices hgoal : W p l e rmX5_full s m ([.ref (q 0)] : List Value).toArray below meth c H locs 0 0 (MQ below (kQi D A res.1 (WX q cy res.2 ++ rest)) ([.ref (q 0)] : List Value).toArray s 0 0 A) (F0 m 0 ls []) by rw [hH0, hlocs0] at hgoal; exact hgoal
  clear hH0 hlocs0
  unfold mX5_full at hf
  refine lv_aload_n hx hb dX5_full_0 rfl (lv_at hl 0 rfl) ?_
  refine lv_iconst (v := 2) hx hb dX5_full_1 (by decide) ?_
  refine lv_bipush (v := (-4)) hx hb dX5_full_2 (by decide) ?_
  obtain ⟨r4, h4r, hf⟩ := o_bs hf
  refine k_goi (va_runV (As := [.int 2, .int (-4)]) (rest := []) ⟨hx, hb, hml, hown, hts⟩ (zX5_refuse l D cy sa q rest H.size u 2 (-4) r4 h4r) (cwV 2 hts (gB_V wB106 wB107 wB108 wB2 wB109) rfl rfl rfl (by decide +kernel) ⟨Nat.le_of_ble_eq_true rfl, Nat.le_of_ble_eq_true rfl⟩) ⟨kP.blind, k_recv hE hP (ci := 5) (q0 := 0) rfl rfl, k_pre hP hD hS hE hA⟩ rfl rfl hl.1 rfl (lv_room (Nat.le_of_ble_eq_true rfl)) dX5_full_4 ⟨Nat.zero_le _, Nat.zero_le _⟩) hD hS hA (fun H locs hP hD hS => ?_)
  obtain rfl := o_ret hf
  exact k_iret hx hb hr hP hD hS (Nat.zero_le _) (Nat.zero_le _) hlocks dX5_full_7
noncomputable def mX5_isColor (a0 : Int32) : Option (Int32) :=
  if a0 < 0 then
  (some 0)
  else
  (if 4 ≤ a0 then
  (some 0)
  else
  (some 1))
abbrev rmX5_isColor : Room := { frames := 0, cells := 0, slots := 0, locals := 0 }
set_option maxRecDepth 100000 in
set_option maxHeartbeats 4000000 in
theorem zX5_isColor (l : Launch) (D : va_G) (cy : Nat → ClassId) (sa : Nat → Nat) (ws : va_W) (sz : Nat) (a0 : Int32) (res : Int32) (hf : mX5_isColor a0 = some res) : kMi l yX5_isColor (wsK yX5_isColor cX5_isColor 1 (some .boolean)) rmX5_isColor D cy sa (ws) sz [.int a0] res (ws) 0 0 := by
  refine kM_of (Qc := fun A => kQi D A res (ws)) (cc := cX5_isColor) (maxL := 1) (ret := (some .boolean)) (by decide) (Nat.le_of_ble_eq_true rfl) ?_
  intro p e s m below meth c A hx hb hml hr hts hown hlocks hin hA hP hD hS hE hsz ls hl
  have hown : s.vm.findClass RX5 = some m.cls := hown
  obtain ⟨H, hH0⟩ : ∃ H, H = s.heap := ⟨_, rfl⟩
  obtain ⟨locs, hlocs0⟩ : ∃ locs : List Loc, locs = [] := ⟨_, rfl⟩
  have hP : va_P D vwCl (ws) H := by rw [hH0]; exact hP
  have hS : va_S A s.heap H locs := by rw [hH0, hlocs0]; exact hS
  have hl : lv_has ls 1 [(0, .int a0)] := hl
  suffices hgoal : W p l e rmX5_isColor s m ([.int a0] : List Value).toArray below meth c H locs 0 0 (MQ below (kQi D A res (ws)) ([.int a0] : List Value).toArray s 0 0 A) (F0 m 0 ls []) by rw [hH0, hlocs0] at hgoal; exact hgoal
  clear hH0 hlocs0
  unfold mX5_isColor at hf
  refine lv_iload_n hx hb dX5_isColor_0 rfl (lv_at hl 0 rfl) ?_
  refine lv_if_lt (tgt := 13) hx hb dX5_isColor_1 (by decide) (fun c1 => ?_) (fun c1 => ?_)
  · have hf := o_ip c1 hf
    refine lv_iconst (v := 0) hx hb dX5_isColor_13 (by decide) ?_
    obtain rfl := o_ret hf
    exact k_zret (v := 0) hx hb hr hP hD hS rfl (Nat.zero_le _) (Nat.zero_le _) hlocks dX5_isColor_14
  · have hf := o_in c1 hf
    refine lv_iload_n hx hb dX5_isColor_4 rfl (lv_at hl 0 rfl) ?_
    refine lv_iconst (v := 4) hx hb dX5_isColor_5 (by decide) ?_
    refine lv_icmp_ge (tgt := 13) hx hb dX5_isColor_6 (by decide) (fun c6 => ?_) (fun c6 => ?_)
    · have hf := o_ip c6 hf
      refine lv_iconst (v := 0) hx hb dX5_isColor_13 (by decide) ?_
      obtain rfl := o_ret hf
      exact k_zret (v := 0) hx hb hr hP hD hS rfl (Nat.zero_le _) (Nat.zero_le _) hlocks dX5_isColor_14
    · have hf := o_in c6 hf
      refine lv_iconst (v := 1) hx hb dX5_isColor_9 (by decide) ?_
      refine lv_goto (tgt := 14) hx hb dX5_isColor_10 (by decide) ?_
      obtain rfl := o_ret hf
      exact k_zret (v := 1) hx hb hr hP hD hS rfl (Nat.zero_le _) (Nat.zero_le _) hlocks dX5_isColor_14
noncomputable def mX5_no (u : KS) : Option (Int32 × KS) :=
  (mX5_refuse u 1 (-3)).bind fun r4 =>
  some (r4.1, r4.2)
abbrev rmX5_no : Room := { frames := 2, cells := 0, slots := 0, locals := 44 }
set_option maxRecDepth 100000 in
set_option maxHeartbeats 4000000 in
theorem zX5_no (l : Launch) (D : va_G) (cy : Nat → ClassId) (sa : Nat → Nat) (q : Nat → Nat) (rest : va_W) (sz : Nat) (u : KS) (res : Int32 × KS) (hf : mX5_no u = some res) : kMi l yX5_no (wsK yX5_no cX5_no 1 (some .int)) rmX5_no D cy sa (WX q cy u ++ rest) sz [.ref (q 0)] res.1 (WX q cy res.2 ++ rest) 0 0 := by
  refine kM_of (Qc := fun A => kQi D A res.1 (WX q cy res.2 ++ rest)) (cc := cX5_no) (maxL := 1) (ret := (some .int)) (by decide) (Nat.le_of_ble_eq_true rfl) ?_
  intro p e s m below meth c A hx hb hml hr hts hown hlocks hin hA hP hD hS hE hsz ls hl
  have hown : s.vm.findClass RX5 = some m.cls := hown
  obtain ⟨H, hH0⟩ : ∃ H, H = s.heap := ⟨_, rfl⟩
  obtain ⟨locs, hlocs0⟩ : ∃ locs : List Loc, locs = [] := ⟨_, rfl⟩
  have hP : va_P D vwCl (WX q cy u ++ rest) H := by rw [hH0]; exact hP
  have hS : va_S A s.heap H locs := by rw [hH0, hlocs0]; exact hS
  have hl : lv_has ls 1 [(0, .ref (q 0))] := hl
  suffices hgoal : W p l e rmX5_no s m ([.ref (q 0)] : List Value).toArray below meth c H locs 0 0 (MQ below (kQi D A res.1 (WX q cy res.2 ++ rest)) ([.ref (q 0)] : List Value).toArray s 0 0 A) (F0 m 0 ls []) by rw [hH0, hlocs0] at hgoal; exact hgoal
  clear hH0 hlocs0
  unfold mX5_no at hf
  refine lv_aload_n hx hb dX5_no_0 rfl (lv_at hl 0 rfl) ?_
  refine lv_iconst (v := 1) hx hb dX5_no_1 (by decide) ?_
  refine lv_bipush (v := (-3)) hx hb dX5_no_2 (by decide) ?_
  obtain ⟨r4, h4r, hf⟩ := o_bs hf
  refine k_goi (va_runV (As := [.int 1, .int (-3)]) (rest := []) ⟨hx, hb, hml, hown, hts⟩ (zX5_refuse l D cy sa q rest H.size u 1 (-3) r4 h4r) (cwV 2 hts (gB_V wB106 wB107 wB108 wB2 wB109) rfl rfl rfl (by decide +kernel) ⟨Nat.le_of_ble_eq_true rfl, Nat.le_of_ble_eq_true rfl⟩) ⟨kP.blind, k_recv hE hP (ci := 5) (q0 := 0) rfl rfl, k_pre hP hD hS hE hA⟩ rfl rfl hl.1 rfl (lv_room (Nat.le_of_ble_eq_true rfl)) dX5_no_4 ⟨Nat.zero_le _, Nat.zero_le _⟩) hD hS hA (fun H locs hP hD hS => ?_)
  obtain rfl := o_ret hf
  exact k_iret hx hb hr hP hD hS (Nat.zero_le _) (Nat.zero_le _) hlocks dX5_no_7
noncomputable def mX5_gives (u : KS) (a1 : Int32) (a2 : Int32) (a3 : Int32) (a4 : Int32) : Option (Int32 × KS) :=
  (mX5_dayIsFaulty u).bind fun r1 =>
  if r1.1 = 0 then
  ((mX5_isFault a1 a2).bind fun r14 =>
  if r14 = 0 then
  ((mX5_bad r1.2).bind fun r40 =>
  some (r40.1, r40.2))
  else
  ((mX0_has r1.2 a3).bind fun r25 =>
  if r25 = 0 then
  ((mX5_bad r1.2).bind fun r40 =>
  some (r40.1, r40.2))
  else
  ((mX5_isColor a4).bind fun r33 =>
  if r33 = 0 then
  ((mX5_bad r1.2).bind fun r40 =>
  some (r40.1, r40.2))
  else
  ((mX5_faultOf a1 a2).bind fun r50 =>
  (mX0_given r1.2 r50 a3 a4).bind fun r56 =>
  some (r56, r1.2)))))
  else
  ((mX5_no r1.2).bind fun r8 =>
  some (r8.1, r8.2))
abbrev rmX5_gives : Room := { frames := 10, cells := 0, slots := 0, locals := 217 }
set_option maxRecDepth 100000 in
set_option maxHeartbeats 4000000 in
theorem zX5_gives (l : Launch) (D : va_G) (cy : Nat → ClassId) (sa : Nat → Nat) (q : Nat → Nat) (rest : va_W) (sz : Nat) (u : KS) (a1 : Int32) (a2 : Int32) (a3 : Int32) (a4 : Int32) (res : Int32 × KS) (hf : mX5_gives u a1 a2 a3 a4 = some res) : kMi l yX5_gives (wsK yX5_gives cX5_gives 5 (some .int)) rmX5_gives D cy sa (WX q cy u ++ rest) sz [.ref (q 0), .int a1, .int a2, .int a3, .int a4] res.1 (WX q cy res.2 ++ rest) 0 0 := by
  refine kM_of (Qc := fun A => kQi D A res.1 (WX q cy res.2 ++ rest)) (cc := cX5_gives) (maxL := 5) (ret := (some .int)) (by decide) (Nat.le_of_ble_eq_true rfl) ?_
  intro p e s m below meth c A hx hb hml hr hts hown hlocks hin hA hP hD hS hE hsz ls hl
  have hown : s.vm.findClass RX5 = some m.cls := hown
  obtain ⟨H, hH0⟩ : ∃ H, H = s.heap := ⟨_, rfl⟩
  obtain ⟨locs, hlocs0⟩ : ∃ locs : List Loc, locs = [] := ⟨_, rfl⟩
  have hP : va_P D vwCl (WX q cy u ++ rest) H := by rw [hH0]; exact hP
  have hS : va_S A s.heap H locs := by rw [hH0, hlocs0]; exact hS
  have hl : lv_has ls 5 [(0, .ref (q 0)), (1, .int a1), (2, .int a2), (3, .int a3), (4, .int a4)] := hl
  suffices hgoal : W p l e rmX5_gives s m ([.ref (q 0), .int a1, .int a2, .int a3, .int a4] : List Value).toArray below meth c H locs 0 0 (MQ below (kQi D A res.1 (WX q cy res.2 ++ rest)) ([.ref (q 0), .int a1, .int a2, .int a3, .int a4] : List Value).toArray s 0 0 A) (F0 m 0 ls []) by rw [hH0, hlocs0] at hgoal; exact hgoal
  clear hH0 hlocs0
  unfold mX5_gives at hf
  refine lv_aload_n hx hb dX5_gives_0 rfl (lv_at hl 0 rfl) ?_
  obtain ⟨r1, h1r, hf⟩ := o_bs hf
  refine k_goi (va_runV (As := []) (rest := []) ⟨hx, hb, hml, hown, hts⟩ (zX5_dayIsFaulty l D cy sa q rest H.size u  r1 h1r) (cwV 0 hts (gB_V wB295 wB296 wB297 wB2 wB298) rfl rfl rfl (by decide +kernel) ⟨Nat.le_of_ble_eq_true rfl, Nat.le_of_ble_eq_true rfl⟩) ⟨kP.blind, k_recv hE hP (ci := 5) (q0 := 0) rfl rfl, k_pre hP hD hS hE hA⟩ rfl rfl hl.1 rfl (lv_room (Nat.le_of_ble_eq_true rfl)) dX5_gives_1 ⟨Nat.zero_le _, Nat.zero_le _⟩) hD hS hA (fun H locs hP hD hS => ?_)
  refine lv_if_eq (tgt := 12) hx hb dX5_gives_4 (by decide) (fun c4 => ?_) (fun c4 => ?_)
  · have hf := o_ip c4 hf
    refine lv_iload_n hx hb dX5_gives_12 rfl (lv_at hl 1 rfl) ?_
    refine lv_iload_n hx hb dX5_gives_13 rfl (lv_at hl 2 rfl) ?_
    obtain ⟨r14, h14r, hf⟩ := o_bs hf
    refine k_goi (va_runS (As := [.int a1, .int a2]) (rest := []) ⟨hx, hb, hml, hown, hts⟩ (zX5_isFault l D cy sa (WX q cy r1.2 ++ rest) H.size a1 a2  r14  h14r) (va_cwS 2 hts (gB_S wB312 wB313 wB2 wB314) rfl rfl rfl (by decide +kernel) ⟨Nat.le_of_ble_eq_true rfl, Nat.le_of_ble_eq_true rfl⟩) ⟨kP.blind, k_pre hP hD hS hE hA⟩ rfl rfl hl.1 rfl (lv_room (Nat.le_of_ble_eq_true rfl)) dX5_gives_14 ⟨Nat.zero_le _, Nat.zero_le _⟩) hD hS hA (fun H locs hP hD hS => ?_)
    refine lv_if_eq (tgt := 39) hx hb dX5_gives_17 (by decide) (fun c17 => ?_) (fun c17 => ?_)
    · have hf := o_ip c17 hf
      refine lv_aload_n hx hb dX5_gives_39 rfl (lv_at hl 0 rfl) ?_
      obtain ⟨r40, h40r, hf⟩ := o_bs hf
      refine k_goi (va_runV (As := []) (rest := []) ⟨hx, hb, hml, hown, hts⟩ (zX5_bad l D cy sa q rest H.size r1.2  r40 h40r) (cwV 0 hts (gB_V wB102 wB103 wB104 wB2 wB105) rfl rfl rfl (by decide +kernel) ⟨Nat.le_of_ble_eq_true rfl, Nat.le_of_ble_eq_true rfl⟩) ⟨kP.blind, k_recv hE hP (ci := 5) (q0 := 0) rfl rfl, k_pre hP hD hS hE hA⟩ rfl rfl hl.1 rfl (lv_room (Nat.le_of_ble_eq_true rfl)) dX5_gives_40 ⟨Nat.zero_le _, Nat.zero_le _⟩) hD hS hA (fun H locs hP hD hS => ?_)
      obtain rfl := o_ret hf
      exact k_iret hx hb hr hP hD hS (Nat.zero_le _) (Nat.zero_le _) hlocks dX5_gives_43
    · have hf := o_in c17 hf
      refine lv_aload_n hx hb dX5_gives_20 rfl (lv_at hl 0 rfl) ?_
      refine va_get (ci := 5) (v := .ref (q 10)) (C := RX5) (T := TX5) (N := 9) hx hb hts inlX5 hown hE.1 hP 0 rfl rfl 2 (by decide) (hts _ wB21) (fun _ h9 => h9) rfl dX5_gives_21 ?_
      refine lv_iload_n hx hb dX5_gives_24 rfl (lv_at hl 3 rfl) ?_
      obtain ⟨r25, h25r, hf⟩ := o_bs hf
      refine k_goi (va_runV (As := [.int a3]) (rest := []) ⟨hx, hb, hml, hown, hts⟩ (zX0_has l D cy sa q rest H.size r1.2 a3 r25 h25r) (cwV 1 hts (gB_V wB318 wB319 wB320 wB20 wB321) rfl rfl rfl (by decide +kernel) ⟨Nat.le_of_ble_eq_true rfl, Nat.le_of_ble_eq_true rfl⟩) ⟨kP.blind, k_recv hE hP (ci := 0) (q0 := 10) rfl rfl, k_pre hP hD hS hE hA⟩ rfl rfl hl.1 rfl (lv_room (Nat.le_of_ble_eq_true rfl)) dX5_gives_25 ⟨Nat.zero_le _, Nat.zero_le _⟩) hD hS hA (fun H locs hP hD hS => ?_)
      refine lv_if_eq (tgt := 39) hx hb dX5_gives_28 (by decide) (fun c28 => ?_) (fun c28 => ?_)
      · have hf := o_ip c28 hf
        refine lv_aload_n hx hb dX5_gives_39 rfl (lv_at hl 0 rfl) ?_
        obtain ⟨r40, h40r, hf⟩ := o_bs hf
        refine k_goi (va_runV (As := []) (rest := []) ⟨hx, hb, hml, hown, hts⟩ (zX5_bad l D cy sa q rest H.size r1.2  r40 h40r) (cwV 0 hts (gB_V wB102 wB103 wB104 wB2 wB105) rfl rfl rfl (by decide +kernel) ⟨Nat.le_of_ble_eq_true rfl, Nat.le_of_ble_eq_true rfl⟩) ⟨kP.blind, k_recv hE hP (ci := 5) (q0 := 0) rfl rfl, k_pre hP hD hS hE hA⟩ rfl rfl hl.1 rfl (lv_room (Nat.le_of_ble_eq_true rfl)) dX5_gives_40 ⟨Nat.zero_le _, Nat.zero_le _⟩) hD hS hA (fun H locs hP hD hS => ?_)
        obtain rfl := o_ret hf
        exact k_iret hx hb hr hP hD hS (Nat.zero_le _) (Nat.zero_le _) hlocks dX5_gives_43
      · have hf := o_in c28 hf
        refine lv_iload hx hb dX5_gives_31 (lv_at hl 4 rfl) ?_
        obtain ⟨r33, h33r, hf⟩ := o_bs hf
        refine k_goi (va_runS (As := [.int a4]) (rest := []) ⟨hx, hb, hml, hown, hts⟩ (zX5_isColor l D cy sa (WX q cy r1.2 ++ rest) H.size a4  r33  h33r) (va_cwS 1 hts (gB_S wB284 wB285 wB2 wB286) rfl rfl rfl (by decide +kernel) ⟨Nat.le_of_ble_eq_true rfl, Nat.le_of_ble_eq_true rfl⟩) ⟨kP.blind, k_pre hP hD hS hE hA⟩ rfl rfl hl.1 rfl (lv_room (Nat.le_of_ble_eq_true rfl)) dX5_gives_33 ⟨Nat.zero_le _, Nat.zero_le _⟩) hD hS hA (fun H locs hP hD hS => ?_)
        refine lv_if_ne (tgt := 44) hx hb dX5_gives_36 (by decide) (fun c36 => ?_) (fun c36 => ?_)
        · have hf := o_in c36 hf
          refine lv_aload_n hx hb dX5_gives_44 rfl (lv_at hl 0 rfl) ?_
          refine va_get (ci := 5) (v := .ref (q 10)) (C := RX5) (T := TX5) (N := 9) hx hb hts inlX5 hown hE.1 hP 0 rfl rfl 2 (by decide) (hts _ wB21) (fun _ h9 => h9) rfl dX5_gives_45 ?_
          refine lv_iload_n hx hb dX5_gives_48 rfl (lv_at hl 1 rfl) ?_
          refine lv_iload_n hx hb dX5_gives_49 rfl (lv_at hl 2 rfl) ?_
          obtain ⟨r50, h50r, hf⟩ := o_bs hf
          refine k_goi (va_runS (As := [.int a1, .int a2]) (rest := [.ref (q 10)]) ⟨hx, hb, hml, hown, hts⟩ (zX5_faultOf l D cy sa (WX q cy r1.2 ++ rest) H.size a1 a2  r50  h50r) (va_cwS 2 hts (gB_S wB322 wB323 wB2 wB324) rfl rfl rfl (by decide +kernel) ⟨Nat.le_of_ble_eq_true rfl, Nat.le_of_ble_eq_true rfl⟩) ⟨kP.blind, k_pre hP hD hS hE hA⟩ rfl rfl hl.1 rfl (lv_room (Nat.le_of_ble_eq_true rfl)) dX5_gives_50 ⟨Nat.zero_le _, Nat.zero_le _⟩) hD hS hA (fun H locs hP hD hS => ?_)
          refine lv_iload_n hx hb dX5_gives_53 rfl (lv_at hl 3 rfl) ?_
          refine lv_iload hx hb dX5_gives_54 (lv_at hl 4 rfl) ?_
          obtain ⟨r56, h56r, hf⟩ := o_bs hf
          refine k_goi (va_runV (As := [.int r50, .int a3, .int a4]) (rest := []) ⟨hx, hb, hml, hown, hts⟩ (zX0_given l D cy sa q rest H.size r1.2 r50 a3 a4 r56 h56r) (cwV 3 hts (gB_V wB325 wB326 wB327 wB20 wB328) rfl rfl rfl (by decide +kernel) ⟨Nat.le_of_ble_eq_true rfl, Nat.le_of_ble_eq_true rfl⟩) ⟨kP.blind, k_recv hE hP (ci := 0) (q0 := 10) rfl rfl, k_pre hP hD hS hE hA⟩ rfl rfl hl.1 rfl (lv_room (Nat.le_of_ble_eq_true rfl)) dX5_gives_56 ⟨Nat.zero_le _, Nat.zero_le _⟩) hD hS hA (fun H locs hP hD hS => ?_)
          obtain rfl := o_ret hf
          exact k_iret hx hb hr hP hD hS (Nat.zero_le _) (Nat.zero_le _) hlocks dX5_gives_59
        · have hf := o_ip c36 hf
          refine lv_aload_n hx hb dX5_gives_39 rfl (lv_at hl 0 rfl) ?_
          obtain ⟨r40, h40r, hf⟩ := o_bs hf
          refine k_goi (va_runV (As := []) (rest := []) ⟨hx, hb, hml, hown, hts⟩ (zX5_bad l D cy sa q rest H.size r1.2  r40 h40r) (cwV 0 hts (gB_V wB102 wB103 wB104 wB2 wB105) rfl rfl rfl (by decide +kernel) ⟨Nat.le_of_ble_eq_true rfl, Nat.le_of_ble_eq_true rfl⟩) ⟨kP.blind, k_recv hE hP (ci := 5) (q0 := 0) rfl rfl, k_pre hP hD hS hE hA⟩ rfl rfl hl.1 rfl (lv_room (Nat.le_of_ble_eq_true rfl)) dX5_gives_40 ⟨Nat.zero_le _, Nat.zero_le _⟩) hD hS hA (fun H locs hP hD hS => ?_)
          obtain rfl := o_ret hf
          exact k_iret hx hb hr hP hD hS (Nat.zero_le _) (Nat.zero_le _) hlocks dX5_gives_43
  · have hf := o_in c4 hf
    refine lv_aload_n hx hb dX5_gives_7 rfl (lv_at hl 0 rfl) ?_
    obtain ⟨r8, h8r, hf⟩ := o_bs hf
    refine k_goi (va_runV (As := []) (rest := []) ⟨hx, hb, hml, hown, hts⟩ (zX5_no l D cy sa q rest H.size r1.2  r8 h8r) (cwV 0 hts (gB_V wB299 wB300 wB301 wB2 wB302) rfl rfl rfl (by decide +kernel) ⟨Nat.le_of_ble_eq_true rfl, Nat.le_of_ble_eq_true rfl⟩) ⟨kP.blind, k_recv hE hP (ci := 5) (q0 := 0) rfl rfl, k_pre hP hD hS hE hA⟩ rfl rfl hl.1 rfl (lv_room (Nat.le_of_ble_eq_true rfl)) dX5_gives_8 ⟨Nat.zero_le _, Nat.zero_le _⟩) hD hS hA (fun H locs hP hD hS => ?_)
    obtain rfl := o_ret hf
    exact k_iret hx hb hr hP hD hS (Nat.zero_le _) (Nat.zero_le _) hlocks dX5_gives_11
noncomputable def mX5_smokeOf_s6 (u : KS) (c1 : Int32) (c2 : Int32) (c3 : Int32) (s6 : Int32 × Int32) : Option ((Int32) ⊕ (Int32 × Int32)) :=
  if 4 ≤ s6.2 then
  (some (.inl s6.1))
  else
  ((mX5_at 4 (gR u 4) s6.2).bind fun r21 =>
  if r21 = (-1) then
  (some (.inr (s6.1, (s6.2 + 1))))
  else
  (if s6.2 = c3 then
  (some (.inr (s6.1, (s6.2 + 1))))
  else
  ((mX0_given u r21 c1 c2).bind fun r48 =>
  some (.inr ((s6.1 + r48), (s6.2 + 1))))))
noncomputable def mX5_smokeOf (u : KS) (a1 : Int32) (a2 : Int32) (a3 : Int32) : Option (Int32) :=
  (lpF (mX5_smokeOf_s6 u a1 a2 a3) (0, 0)).bind fun e6 =>
  some e6
abbrev rmX5_smokeOf : Room := { frames := 3, cells := 0, slots := 0, locals := 69 }
set_option maxRecDepth 100000 in
set_option maxHeartbeats 4000000 in
theorem zX5_smokeOf (l : Launch) (D : va_G) (cy : Nat → ClassId) (sa : Nat → Nat) (q : Nat → Nat) (rest : va_W) (sz : Nat) (u : KS) (a1 : Int32) (a2 : Int32) (a3 : Int32) (res : Int32) (hf : mX5_smokeOf u a1 a2 a3 = some res) : kMi l yX5_smokeOf (wsK yX5_smokeOf cX5_smokeOf 7 (some .int)) rmX5_smokeOf D cy sa (WX q cy u ++ rest) sz [.ref (q 0), .int a1, .int a2, .int a3] res (WX q cy u ++ rest) 0 0 := by
  refine kM_of (Qc := fun A => kQi D A res (WX q cy u ++ rest)) (cc := cX5_smokeOf) (maxL := 7) (ret := (some .int)) (by decide) (Nat.le_of_ble_eq_true rfl) ?_
  intro p e s m below meth c A hx hb hml hr hts hown hlocks hin hA hP hD hS hE hsz ls hl
  have hown : s.vm.findClass RX5 = some m.cls := hown
  obtain ⟨H, hH0⟩ : ∃ H, H = s.heap := ⟨_, rfl⟩
  obtain ⟨locs, hlocs0⟩ : ∃ locs : List Loc, locs = [] := ⟨_, rfl⟩
  have hP : va_P D vwCl (WX q cy u ++ rest) H := by rw [hH0]; exact hP
  have hS : va_S A s.heap H locs := by rw [hH0, hlocs0]; exact hS
  have hl : lv_has ls 7 [(0, .ref (q 0)), (1, .int a1), (2, .int a2), (3, .int a3)] := hl
  suffices hgoal : W p l e rmX5_smokeOf s m ([.ref (q 0), .int a1, .int a2, .int a3] : List Value).toArray below meth c H locs 0 0 (MQ below (kQi D A res (WX q cy u ++ rest)) ([.ref (q 0), .int a1, .int a2, .int a3] : List Value).toArray s 0 0 A) (F0 m 0 ls []) by rw [hH0, hlocs0] at hgoal; exact hgoal
  clear hH0 hlocs0
  unfold mX5_smokeOf at hf
  refine lv_iconst (v := 0) hx hb dX5_smokeOf_0 (by decide) ?_
  refine lv_istore (lv' := [(4, .int 0), (0, .ref (q 0)), (1, .int a1), (2, .int a2), (3, .int a3)]) hx hb dX5_smokeOf_1 hl (by decide) rfl (fun ls hl => ?_)
  refine lv_iconst (v := 0) hx hb dX5_smokeOf_3 (by decide) ?_
  refine lv_istore (lv' := [(5, .int 0), (4, .int 0), (0, .ref (q 0)), (1, .int a1), (2, .int a2), (3, .int a3)]) hx hb dX5_smokeOf_4 hl (by decide) rfl (fun ls hl => ?_)
  have L6 : ∀ (n6v : Nat) (s6 : Int32 × Int32) (e6 : Int32), lpO (mX5_smokeOf_s6 u a1 a2 a3) n6v s6 = some e6 → ∀ (H : Heap) (locs : List Loc) (ls : Array Slot), va_P D vwCl (WX q cy u ++ rest) H → va_D A (WX q cy u ++ rest) → va_S A s.heap H locs → lv_has ls 7 [(0, .ref (q 0)), (1, .int a1), (2, .int a2), (3, .int a3), (4, .int s6.1), (5, .int s6.2)] → (∀ (H : Heap) (locs : List Loc) (ls : Array Slot), va_P D vwCl (WX q cy u ++ rest) H → va_D A (WX q cy u ++ rest) → va_S A s.heap H locs → lv_has ls 7 [(4, .int e6)] → W p l e rmX5_smokeOf s m ([.ref (q 0), .int a1, .int a2, .int a3] : List Value).toArray below meth c H locs 0 0 (MQ below (kQi D A res (WX q cy u ++ rest)) ([.ref (q 0), .int a1, .int a2, .int a3] : List Value).toArray s 0 0 A) (F0 m 60 ls [])) → W p l e rmX5_smokeOf s m ([.ref (q 0), .int a1, .int a2, .int a3] : List Value).toArray below meth c H locs 0 0 (MQ below (kQi D A res (WX q cy u ++ rest)) ([.ref (q 0), .int a1, .int a2, .int a3] : List Value).toArray s 0 0 A) (F0 m 6 ls []) := by
    intro n6v
    induction n6v with
    | zero => intro s6 e6 h; exact (lpO_z h).elim
    | succ n6v ih6 =>
      intro s6 e6 h6z H locs ls hP hD hS hl K6_0
      obtain ⟨x6, hf, h6z⟩ := lpO_s h6z
      unfold mX5_smokeOf_s6 at hf
      refine lv_iload hx hb dX5_smokeOf_6 (lv_at hl 5 rfl) ?_
      refine lv_iconst (v := 4) hx hb dX5_smokeOf_8 (by decide) ?_
      refine lv_icmp_ge (tgt := 60) hx hb dX5_smokeOf_9 (by decide) (fun c9 => ?_) (fun c9 => ?_)
      · have hf := o_ip c9 hf
        obtain rfl := o_ret hf
        obtain rfl := lpK_l h6z
        exact K6_0 _ _ _ hP hD hS (lv_sub hl [4] rfl)
      · have hf := o_in c9 hf
        refine lv_aload_n hx hb dX5_smokeOf_12 rfl (lv_at hl 0 rfl) ?_
        refine va_get (ci := 5) (v := .ref (q 3)) (C := RX5) (T := TX5) (N := 9) hx hb hts inlX5 hown hE.1 hP 0 rfl rfl 0 (by decide) (hts _ wB16) (fun _ h9 => h9) rfl dX5_smokeOf_13 ?_
        refine va_get (ci := 3) (v := .ref (q 7)) (C := RX3) (T := TX3) (N := 9) hx hb hts inlX3 hown hE.1 hP 3 rfl rfl 4 (by decide) (hts _ wB351) (fun _ h9 => h9) rfl dX5_smokeOf_16 ?_
        refine lv_iload hx hb dX5_smokeOf_19 (lv_at hl 5 rfl) ?_
        obtain ⟨r21, h21r, hf⟩ := o_bs hf
        refine k_goi (va_runS (As := [.ref (q 7), .int s6.2]) (rest := []) ⟨hx, hb, hml, hown, hts⟩ (zX5_at l D cy sa (WX q cy u ++ rest) H.size 7 (q 7) 4 (gR u 4) s6.2 r21 rfl h21r) (va_cwS 2 hts (gB_S wB110 wB111 wB2 wB112) rfl rfl rfl (by decide +kernel) ⟨Nat.le_of_ble_eq_true rfl, Nat.le_of_ble_eq_true rfl⟩) ⟨kP.blind, k_pre hP hD hS hE hA⟩ rfl rfl hl.1 rfl (lv_room (Nat.le_of_ble_eq_true rfl)) dX5_smokeOf_21 ⟨Nat.zero_le _, Nat.zero_le _⟩) hD hS hA (fun H locs hP hD hS => ?_)
        refine lv_istore (lv' := [(6, .int r21), (0, .ref (q 0)), (1, .int a1), (2, .int a2), (3, .int a3), (4, .int s6.1), (5, .int s6.2)]) hx hb dX5_smokeOf_24 hl (by decide) rfl (fun ls hl => ?_)
        refine lv_iload hx hb dX5_smokeOf_26 (lv_at hl 0 rfl) ?_
        refine lv_iconst (v := (-1)) hx hb dX5_smokeOf_28 (by decide) ?_
        refine lv_icmp_eq (tgt := 54) hx hb dX5_smokeOf_29 (by decide) (fun c29 => ?_) (fun c29 => ?_)
        · have hf := o_ip c29 hf
          refine lv_iinc (v := (s6.2 + 1)) (lv' := [(5, .int (s6.2 + 1)), (6, .int r21), (0, .ref (q 0)), (1, .int a1), (2, .int a2), (3, .int a3), (4, .int s6.1)]) hx hb dX5_smokeOf_54 hl (k := 6) rfl (by rfl) (by decide) rfl (fun ls hl => ?_)
          refine lv_goto (tgt := 6) hx hb dX5_smokeOf_57 (by decide) ?_
          obtain rfl := o_ret hf
          exact ih6 _ _ (lpK_r h6z) _ _ _ hP hD hS (lv_sub hl [2, 3, 4, 5, 6, 0] rfl) K6_0
        · have hf := o_in c29 hf
          refine lv_iload hx hb dX5_smokeOf_32 (lv_at hl 6 rfl) ?_
          refine lv_iload_n hx hb dX5_smokeOf_34 rfl (lv_at hl 4 rfl) ?_
          refine lv_icmp_eq (tgt := 54) hx hb dX5_smokeOf_35 (by decide) (fun c35 => ?_) (fun c35 => ?_)
          · have hf := o_ip c35 hf
            refine lv_iinc (v := (s6.2 + 1)) (lv' := [(5, .int (s6.2 + 1)), (6, .int r21), (0, .ref (q 0)), (1, .int a1), (2, .int a2), (3, .int a3), (4, .int s6.1)]) hx hb dX5_smokeOf_54 hl (k := 6) rfl (by rfl) (by decide) rfl (fun ls hl => ?_)
            refine lv_goto (tgt := 6) hx hb dX5_smokeOf_57 (by decide) ?_
            obtain rfl := o_ret hf
            exact ih6 _ _ (lpK_r h6z) _ _ _ hP hD hS (lv_sub hl [2, 3, 4, 5, 6, 0] rfl) K6_0
          · have hf := o_in c35 hf
            refine lv_iload hx hb dX5_smokeOf_38 (lv_at hl 5 rfl) ?_
            refine lv_aload_n hx hb dX5_smokeOf_40 rfl (lv_at hl 1 rfl) ?_
            refine va_get (ci := 5) (v := .ref (q 10)) (C := RX5) (T := TX5) (N := 9) hx hb hts inlX5 hown hE.1 hP 0 rfl rfl 2 (by decide) (hts _ wB21) (fun _ h9 => h9) rfl dX5_smokeOf_41 ?_
            refine lv_iload hx hb dX5_smokeOf_44 (lv_at hl 0 rfl) ?_
            refine lv_iload_n hx hb dX5_smokeOf_46 rfl (lv_at hl 2 rfl) ?_
            refine lv_iload_n hx hb dX5_smokeOf_47 rfl (lv_at hl 3 rfl) ?_
            obtain ⟨r48, h48r, hf⟩ := o_bs hf
            refine k_goi (va_runV (As := [.int r21, .int a1, .int a2]) (rest := [.int s6.1]) ⟨hx, hb, hml, hown, hts⟩ (zX0_given l D cy sa q rest H.size u r21 a1 a2 r48 h48r) (cwV 3 hts (gB_V wB325 wB326 wB327 wB20 wB328) rfl rfl rfl (by decide +kernel) ⟨Nat.le_of_ble_eq_true rfl, Nat.le_of_ble_eq_true rfl⟩) ⟨kP.blind, k_recv hE hP (ci := 0) (q0 := 10) rfl rfl, k_pre hP hD hS hE hA⟩ rfl rfl hl.1 rfl (lv_room (Nat.le_of_ble_eq_true rfl)) dX5_smokeOf_48 ⟨Nat.zero_le _, Nat.zero_le _⟩) hD hS hA (fun H locs hP hD hS => ?_)
            refine lv_iadd hx hb dX5_smokeOf_51 ?_
            refine lv_istore (lv' := [(4, .int (s6.1 + r48)), (6, .int r21), (0, .ref (q 0)), (1, .int a1), (2, .int a2), (3, .int a3), (5, .int s6.2)]) hx hb dX5_smokeOf_52 hl (by decide) rfl (fun ls hl => ?_)
            refine lv_iinc (v := (s6.2 + 1)) (lv' := [(5, .int (s6.2 + 1)), (4, .int (s6.1 + r48)), (6, .int r21), (0, .ref (q 0)), (1, .int a1), (2, .int a2), (3, .int a3)]) hx hb dX5_smokeOf_54 hl (k := 6) rfl (by rfl) (by decide) rfl (fun ls hl => ?_)
            refine lv_goto (tgt := 6) hx hb dX5_smokeOf_57 (by decide) ?_
            obtain rfl := o_ret hf
            exact ih6 _ _ (lpK_r h6z) _ _ _ hP hD hS (lv_sub hl [3, 4, 5, 6, 1, 0] rfl) K6_0
  obtain ⟨e6, h6q, hf⟩ := o_bs hf
  obtain ⟨n6v, h6q⟩ := lpF_ex h6q
  refine L6 n6v _ e6 h6q _ _ _ hP hD hS (lv_sub hl [2, 3, 4, 5, 1, 0] rfl) ?_
  intro H locs ls hP hD hS hl
  refine lv_iload hx hb dX5_smokeOf_60 (lv_at hl 0 rfl) ?_
  obtain rfl := o_ret hf
  exact k_iret hx hb hr hP hD hS (Nat.zero_le _) (Nat.zero_le _) hlocks dX5_smokeOf_62
noncomputable def mX5_goes_s30 (u : KS) (c1 : Int32) (s30 : Int32 × Int32) : Option ((Int32) ⊕ (Int32 × Int32)) :=
  if (gI u 6) ≤ s30.2 then
  (some (.inl s30.1))
  else
  (if c1 = 0 then
  ((mX5_smokeOf u s30.2 0 (-1)).bind fun r54 =>
  some (.inr ((s30.1 + r54), (s30.2 + 1))))
  else
  ((mX5_smokeOf u s30.2 1 (-1)).bind fun r54 =>
  some (.inr ((s30.1 + r54), (s30.2 + 1)))))
noncomputable def mX5_goes (u : KS) (a1 : Int32) : Option (Int32 × KS) :=
  if a1 < 0 then
  ((mX5_bad u).bind fun r10 =>
  some (r10.1, r10.2))
  else
  (if a1 ≤ 1 then
  ((mX5_dayIsFaulty u).bind fun r15 =>
  if r15.1 = 0 then
  ((lpF (mX5_goes_s30 r15.2 a1) (0, 0)).bind fun e30 =>
  some (e30, r15.2))
  else
  ((mX5_no r15.2).bind fun r22 =>
  some (r22.1, r22.2)))
  else
  ((mX5_bad u).bind fun r10 =>
  some (r10.1, r10.2)))
abbrev rmX5_goes : Room := { frames := 10, cells := 0, slots := 0, locals := 217 }
set_option maxRecDepth 100000 in
set_option maxHeartbeats 4000000 in
theorem zX5_goes (l : Launch) (D : va_G) (cy : Nat → ClassId) (sa : Nat → Nat) (q : Nat → Nat) (rest : va_W) (sz : Nat) (u : KS) (a1 : Int32) (res : Int32 × KS) (hf : mX5_goes u a1 = some res) : kMi l yX5_goes (wsK yX5_goes cX5_goes 4 (some .int)) rmX5_goes D cy sa (WX q cy u ++ rest) sz [.ref (q 0), .int a1] res.1 (WX q cy res.2 ++ rest) 0 0 := by
  refine kM_of (Qc := fun A => kQi D A res.1 (WX q cy res.2 ++ rest)) (cc := cX5_goes) (maxL := 4) (ret := (some .int)) (by decide) (Nat.le_of_ble_eq_true rfl) ?_
  intro p e s m below meth c A hx hb hml hr hts hown hlocks hin hA hP hD hS hE hsz ls hl
  have hown : s.vm.findClass RX5 = some m.cls := hown
  obtain ⟨H, hH0⟩ : ∃ H, H = s.heap := ⟨_, rfl⟩
  obtain ⟨locs, hlocs0⟩ : ∃ locs : List Loc, locs = [] := ⟨_, rfl⟩
  have hP : va_P D vwCl (WX q cy u ++ rest) H := by rw [hH0]; exact hP
  have hS : va_S A s.heap H locs := by rw [hH0, hlocs0]; exact hS
  have hl : lv_has ls 4 [(0, .ref (q 0)), (1, .int a1)] := hl
  suffices hgoal : W p l e rmX5_goes s m ([.ref (q 0), .int a1] : List Value).toArray below meth c H locs 0 0 (MQ below (kQi D A res.1 (WX q cy res.2 ++ rest)) ([.ref (q 0), .int a1] : List Value).toArray s 0 0 A) (F0 m 0 ls []) by rw [hH0, hlocs0] at hgoal; exact hgoal
  clear hH0 hlocs0
  unfold mX5_goes at hf
  refine lv_iload_n hx hb dX5_goes_0 rfl (lv_at hl 1 rfl) ?_
  refine lv_if_lt (tgt := 9) hx hb dX5_goes_1 (by decide) (fun c1 => ?_) (fun c1 => ?_)
  · have hf := o_ip c1 hf
    refine lv_aload_n hx hb dX5_goes_9 rfl (lv_at hl 0 rfl) ?_
    obtain ⟨r10, h10r, hf⟩ := o_bs hf
    refine k_goi (va_runV (As := []) (rest := []) ⟨hx, hb, hml, hown, hts⟩ (zX5_bad l D cy sa q rest H.size u  r10 h10r) (cwV 0 hts (gB_V wB102 wB103 wB104 wB2 wB105) rfl rfl rfl (by decide +kernel) ⟨Nat.le_of_ble_eq_true rfl, Nat.le_of_ble_eq_true rfl⟩) ⟨kP.blind, k_recv hE hP (ci := 5) (q0 := 0) rfl rfl, k_pre hP hD hS hE hA⟩ rfl rfl hl.1 rfl (lv_room (Nat.le_of_ble_eq_true rfl)) dX5_goes_10 ⟨Nat.zero_le _, Nat.zero_le _⟩) hD hS hA (fun H locs hP hD hS => ?_)
    obtain rfl := o_ret hf
    exact k_iret hx hb hr hP hD hS (Nat.zero_le _) (Nat.zero_le _) hlocks dX5_goes_13
  · have hf := o_in c1 hf
    refine lv_iload_n hx hb dX5_goes_4 rfl (lv_at hl 1 rfl) ?_
    refine lv_iconst (v := 1) hx hb dX5_goes_5 (by decide) ?_
    refine lv_icmp_le (tgt := 14) hx hb dX5_goes_6 (by decide) (fun c6 => ?_) (fun c6 => ?_)
    · have hf := o_ip c6 hf
      refine lv_aload_n hx hb dX5_goes_14 rfl (lv_at hl 0 rfl) ?_
      obtain ⟨r15, h15r, hf⟩ := o_bs hf
      refine k_goi (va_runV (As := []) (rest := []) ⟨hx, hb, hml, hown, hts⟩ (zX5_dayIsFaulty l D cy sa q rest H.size u  r15 h15r) (cwV 0 hts (gB_V wB295 wB296 wB297 wB2 wB298) rfl rfl rfl (by decide +kernel) ⟨Nat.le_of_ble_eq_true rfl, Nat.le_of_ble_eq_true rfl⟩) ⟨kP.blind, k_recv hE hP (ci := 5) (q0 := 0) rfl rfl, k_pre hP hD hS hE hA⟩ rfl rfl hl.1 rfl (lv_room (Nat.le_of_ble_eq_true rfl)) dX5_goes_15 ⟨Nat.zero_le _, Nat.zero_le _⟩) hD hS hA (fun H locs hP hD hS => ?_)
      refine lv_if_eq (tgt := 26) hx hb dX5_goes_18 (by decide) (fun c18 => ?_) (fun c18 => ?_)
      · have hf := o_ip c18 hf
        refine lv_iconst (v := 0) hx hb dX5_goes_26 (by decide) ?_
        refine lv_istore_n (lv' := [(2, .int 0), (0, .ref (q 0)), (1, .int a1)]) hx hb dX5_goes_27 rfl hl (by decide) rfl (fun ls hl => ?_)
        refine lv_iconst (v := 0) hx hb dX5_goes_28 (by decide) ?_
        refine lv_istore_n (lv' := [(3, .int 0), (2, .int 0), (0, .ref (q 0)), (1, .int a1)]) hx hb dX5_goes_29 rfl hl (by decide) rfl (fun ls hl => ?_)
        have L30 : ∀ (n30v : Nat) (s30 : Int32 × Int32) (e30 : Int32), lpO (mX5_goes_s30 r15.2 a1) n30v s30 = some e30 → ∀ (H : Heap) (locs : List Loc) (ls : Array Slot), va_P D vwCl (WX q cy r15.2 ++ rest) H → va_D A (WX q cy r15.2 ++ rest) → va_S A s.heap H locs → lv_has ls 4 [(0, .ref (q 0)), (1, .int a1), (2, .int s30.1), (3, .int s30.2)] → (∀ (H : Heap) (locs : List Loc) (ls : Array Slot), va_P D vwCl (WX q cy r15.2 ++ rest) H → va_D A (WX q cy r15.2 ++ rest) → va_S A s.heap H locs → lv_has ls 4 [(2, .int e30)] → W p l e rmX5_goes s m ([.ref (q 0), .int a1] : List Value).toArray below meth c H locs 0 0 (MQ below (kQi D A res.1 (WX q cy res.2 ++ rest)) ([.ref (q 0), .int a1] : List Value).toArray s 0 0 A) (F0 m 65 ls [])) → W p l e rmX5_goes s m ([.ref (q 0), .int a1] : List Value).toArray below meth c H locs 0 0 (MQ below (kQi D A res.1 (WX q cy res.2 ++ rest)) ([.ref (q 0), .int a1] : List Value).toArray s 0 0 A) (F0 m 30 ls []) := by
          intro n30v
          induction n30v with
          | zero => intro s30 e30 h; exact (lpO_z h).elim
          | succ n30v ih30 =>
            intro s30 e30 h30z H locs ls hP hD hS hl K30_0
            obtain ⟨x30, hf, h30z⟩ := lpO_s h30z
            unfold mX5_goes_s30 at hf
            refine lv_iload_n hx hb dX5_goes_30 rfl (lv_at hl 3 rfl) ?_
            refine lv_aload_n hx hb dX5_goes_31 rfl (lv_at hl 0 rfl) ?_
            refine va_get (ci := 5) (v := .ref (q 10)) (C := RX5) (T := TX5) (N := 9) hx hb hts inlX5 hown hE.1 hP 0 rfl rfl 2 (by decide) (hts _ wB21) (fun _ h9 => h9) rfl dX5_goes_32 ?_
            refine va_get (ci := 0) (v := .int (gI r15.2 6)) (C := RX0) (T := TX0) (N := 9) hx hb hts inlX0 hown hE.1 hP 10 rfl rfl 1 (by decide) (hts _ wB294) (fun _ h9 => h9) rfl dX5_goes_35 ?_
            refine lv_icmp_ge (tgt := 65) hx hb dX5_goes_38 (by decide) (fun c38 => ?_) (fun c38 => ?_)
            · have hf := o_ip c38 hf
              obtain rfl := o_ret hf
              obtain rfl := lpK_l h30z
              exact K30_0 _ _ _ hP hD hS (lv_sub hl [2] rfl)
            · have hf := o_in c38 hf
              refine lv_iload_n hx hb dX5_goes_41 rfl (lv_at hl 2 rfl) ?_
              refine lv_aload_n hx hb dX5_goes_42 rfl (lv_at hl 0 rfl) ?_
              refine lv_iload_n hx hb dX5_goes_43 rfl (lv_at hl 3 rfl) ?_
              refine lv_iload_n hx hb dX5_goes_44 rfl (lv_at hl 1 rfl) ?_
              refine lv_if_ne (tgt := 52) hx hb dX5_goes_45 (by decide) (fun c45 => ?_) (fun c45 => ?_)
              · have hf := o_in c45 hf
                refine lv_iconst (v := 1) hx hb dX5_goes_52 (by decide) ?_
                refine lv_iconst (v := (-1)) hx hb dX5_goes_53 (by decide) ?_
                obtain ⟨r54, h54r, hf⟩ := o_bs hf
                refine k_goi (va_runV (As := [.int s30.2, .int 1, .int (-1)]) (rest := [.int s30.1]) ⟨hx, hb, hml, hown, hts⟩ (zX5_smokeOf l D cy sa q rest H.size r15.2 s30.2 1 (-1) r54 h54r) (cwV 3 hts (gB_V wB356 wB357 wB358 wB2 wB359) rfl rfl rfl (by decide +kernel) ⟨Nat.le_of_ble_eq_true rfl, Nat.le_of_ble_eq_true rfl⟩) ⟨kP.blind, k_recv hE hP (ci := 5) (q0 := 0) rfl rfl, k_pre hP hD hS hE hA⟩ rfl rfl hl.1 rfl (lv_room (Nat.le_of_ble_eq_true rfl)) dX5_goes_54 ⟨Nat.zero_le _, Nat.zero_le _⟩) hD hS hA (fun H locs hP hD hS => ?_)
                refine lv_iadd hx hb dX5_goes_57 ?_
                refine lv_istore_n (lv' := [(2, .int (s30.1 + r54)), (0, .ref (q 0)), (1, .int a1), (3, .int s30.2)]) hx hb dX5_goes_58 rfl hl (by decide) rfl (fun ls hl => ?_)
                refine lv_iinc (v := (s30.2 + 1)) (lv' := [(3, .int (s30.2 + 1)), (2, .int (s30.1 + r54)), (0, .ref (q 0)), (1, .int a1)]) hx hb dX5_goes_59 hl (k := 3) rfl (by rfl) (by decide) rfl (fun ls hl => ?_)
                refine lv_goto (tgt := 30) hx hb dX5_goes_62 (by decide) ?_
                obtain rfl := o_ret hf
                exact ih30 _ _ (lpK_r h30z) _ _ _ hP hD hS (lv_sub hl [2, 3, 1, 0] rfl) K30_0
              · have hf := o_ip c45 hf
                refine lv_iconst (v := 0) hx hb dX5_goes_48 (by decide) ?_
                refine lv_goto (tgt := 53) hx hb dX5_goes_49 (by decide) ?_
                refine lv_iconst (v := (-1)) hx hb dX5_goes_53 (by decide) ?_
                obtain ⟨r54, h54r, hf⟩ := o_bs hf
                refine k_goi (va_runV (As := [.int s30.2, .int 0, .int (-1)]) (rest := [.int s30.1]) ⟨hx, hb, hml, hown, hts⟩ (zX5_smokeOf l D cy sa q rest H.size r15.2 s30.2 0 (-1) r54 h54r) (cwV 3 hts (gB_V wB356 wB357 wB358 wB2 wB359) rfl rfl rfl (by decide +kernel) ⟨Nat.le_of_ble_eq_true rfl, Nat.le_of_ble_eq_true rfl⟩) ⟨kP.blind, k_recv hE hP (ci := 5) (q0 := 0) rfl rfl, k_pre hP hD hS hE hA⟩ rfl rfl hl.1 rfl (lv_room (Nat.le_of_ble_eq_true rfl)) dX5_goes_54 ⟨Nat.zero_le _, Nat.zero_le _⟩) hD hS hA (fun H locs hP hD hS => ?_)
                refine lv_iadd hx hb dX5_goes_57 ?_
                refine lv_istore_n (lv' := [(2, .int (s30.1 + r54)), (0, .ref (q 0)), (1, .int a1), (3, .int s30.2)]) hx hb dX5_goes_58 rfl hl (by decide) rfl (fun ls hl => ?_)
                refine lv_iinc (v := (s30.2 + 1)) (lv' := [(3, .int (s30.2 + 1)), (2, .int (s30.1 + r54)), (0, .ref (q 0)), (1, .int a1)]) hx hb dX5_goes_59 hl (k := 3) rfl (by rfl) (by decide) rfl (fun ls hl => ?_)
                refine lv_goto (tgt := 30) hx hb dX5_goes_62 (by decide) ?_
                obtain rfl := o_ret hf
                exact ih30 _ _ (lpK_r h30z) _ _ _ hP hD hS (lv_sub hl [2, 3, 1, 0] rfl) K30_0
        obtain ⟨e30, h30q, hf⟩ := o_bs hf
        obtain ⟨n30v, h30q⟩ := lpF_ex h30q
        refine L30 n30v _ e30 h30q _ _ _ hP hD hS (lv_sub hl [2, 3, 1, 0] rfl) ?_
        intro H locs ls hP hD hS hl
        refine lv_iload_n hx hb dX5_goes_65 rfl (lv_at hl 0 rfl) ?_
        obtain rfl := o_ret hf
        exact k_iret hx hb hr hP hD hS (Nat.zero_le _) (Nat.zero_le _) hlocks dX5_goes_66
      · have hf := o_in c18 hf
        refine lv_aload_n hx hb dX5_goes_21 rfl (lv_at hl 0 rfl) ?_
        obtain ⟨r22, h22r, hf⟩ := o_bs hf
        refine k_goi (va_runV (As := []) (rest := []) ⟨hx, hb, hml, hown, hts⟩ (zX5_no l D cy sa q rest H.size r15.2  r22 h22r) (cwV 0 hts (gB_V wB299 wB300 wB301 wB2 wB302) rfl rfl rfl (by decide +kernel) ⟨Nat.le_of_ble_eq_true rfl, Nat.le_of_ble_eq_true rfl⟩) ⟨kP.blind, k_recv hE hP (ci := 5) (q0 := 0) rfl rfl, k_pre hP hD hS hE hA⟩ rfl rfl hl.1 rfl (lv_room (Nat.le_of_ble_eq_true rfl)) dX5_goes_22 ⟨Nat.zero_le _, Nat.zero_le _⟩) hD hS hA (fun H locs hP hD hS => ?_)
        obtain rfl := o_ret hf
        exact k_iret hx hb hr hP hD hS (Nat.zero_le _) (Nat.zero_le _) hlocks dX5_goes_25
    · have hf := o_in c6 hf
      refine lv_aload_n hx hb dX5_goes_9 rfl (lv_at hl 0 rfl) ?_
      obtain ⟨r10, h10r, hf⟩ := o_bs hf
      refine k_goi (va_runV (As := []) (rest := []) ⟨hx, hb, hml, hown, hts⟩ (zX5_bad l D cy sa q rest H.size u  r10 h10r) (cwV 0 hts (gB_V wB102 wB103 wB104 wB2 wB105) rfl rfl rfl (by decide +kernel) ⟨Nat.le_of_ble_eq_true rfl, Nat.le_of_ble_eq_true rfl⟩) ⟨kP.blind, k_recv hE hP (ci := 5) (q0 := 0) rfl rfl, k_pre hP hD hS hE hA⟩ rfl rfl hl.1 rfl (lv_room (Nat.le_of_ble_eq_true rfl)) dX5_goes_10 ⟨Nat.zero_le _, Nat.zero_le _⟩) hD hS hA (fun H locs hP hD hS => ?_)
      obtain rfl := o_ret hf
      exact k_iret hx hb hr hP hD hS (Nat.zero_le _) (Nat.zero_le _) hlocks dX5_goes_13
noncomputable def mX5_gone (u : KS) (a1 : Int32) (a2 : Int32) (a3 : Int32) : Option (Int32 × KS) :=
  (mX5_isDeep a1).bind fun r1 =>
  if r1 = 0 then
  ((mX5_bad u).bind fun r28 =>
  some (r28.1, r28.2))
  else
  (if a2 < 0 then
  ((mX5_bad u).bind fun r28 =>
  some (r28.1, r28.2))
  else
  (if 9 < a2 then
  ((mX5_bad u).bind fun r28 =>
  some (r28.1, r28.2))
  else
  (if a3 < 0 then
  ((mX5_bad u).bind fun r28 =>
  some (r28.1, r28.2))
  else
  (if a3 ≤ 20 then
  ((mX1_setGone u a1 a2 a3).bind fun r39 =>
  some (1, r39))
  else
  ((mX5_bad u).bind fun r28 =>
  some (r28.1, r28.2))))))
abbrev rmX5_gone : Room := { frames := 4, cells := 0, slots := 0, locals := 97 }
set_option maxRecDepth 100000 in
set_option maxHeartbeats 4000000 in
theorem zX5_gone (l : Launch) (D : va_G) (cy : Nat → ClassId) (sa : Nat → Nat) (q : Nat → Nat) (rest : va_W) (sz : Nat) (u : KS) (a1 : Int32) (a2 : Int32) (a3 : Int32) (res : Int32 × KS) (hf : mX5_gone u a1 a2 a3 = some res) : kMi l yX5_gone (wsK yX5_gone cX5_gone 4 (some .int)) rmX5_gone D cy sa (WX q cy u ++ rest) sz [.ref (q 0), .int a1, .int a2, .int a3] res.1 (WX q cy res.2 ++ rest) 0 0 := by
  refine kM_of (Qc := fun A => kQi D A res.1 (WX q cy res.2 ++ rest)) (cc := cX5_gone) (maxL := 4) (ret := (some .int)) (by decide) (Nat.le_of_ble_eq_true rfl) ?_
  intro p e s m below meth c A hx hb hml hr hts hown hlocks hin hA hP hD hS hE hsz ls hl
  have hown : s.vm.findClass RX5 = some m.cls := hown
  obtain ⟨H, hH0⟩ : ∃ H, H = s.heap := ⟨_, rfl⟩
  obtain ⟨locs, hlocs0⟩ : ∃ locs : List Loc, locs = [] := ⟨_, rfl⟩
  have hP : va_P D vwCl (WX q cy u ++ rest) H := by rw [hH0]; exact hP
  have hS : va_S A s.heap H locs := by rw [hH0, hlocs0]; exact hS
  have hl : lv_has ls 4 [(0, .ref (q 0)), (1, .int a1), (2, .int a2), (3, .int a3)] := hl
  suffices hgoal : W p l e rmX5_gone s m ([.ref (q 0), .int a1, .int a2, .int a3] : List Value).toArray below meth c H locs 0 0 (MQ below (kQi D A res.1 (WX q cy res.2 ++ rest)) ([.ref (q 0), .int a1, .int a2, .int a3] : List Value).toArray s 0 0 A) (F0 m 0 ls []) by rw [hH0, hlocs0] at hgoal; exact hgoal
  clear hH0 hlocs0
  unfold mX5_gone at hf
  refine lv_iload_n hx hb dX5_gone_0 rfl (lv_at hl 1 rfl) ?_
  obtain ⟨r1, h1r, hf⟩ := o_bs hf
  refine k_goi (va_runS (As := [.int a1]) (rest := []) ⟨hx, hb, hml, hown, hts⟩ (zX5_isDeep l D cy sa (WX q cy u ++ rest) H.size a1  r1  h1r) (va_cwS 1 hts (gB_S wB315 wB316 wB2 wB317) rfl rfl rfl (by decide +kernel) ⟨Nat.le_of_ble_eq_true rfl, Nat.le_of_ble_eq_true rfl⟩) ⟨kP.blind, k_pre hP hD hS hE hA⟩ rfl rfl hl.1 rfl (lv_room (Nat.le_of_ble_eq_true rfl)) dX5_gone_1 ⟨Nat.zero_le _, Nat.zero_le _⟩) hD hS hA (fun H locs hP hD hS => ?_)
  refine lv_if_eq (tgt := 27) hx hb dX5_gone_4 (by decide) (fun c4 => ?_) (fun c4 => ?_)
  · have hf := o_ip c4 hf
    refine lv_aload_n hx hb dX5_gone_27 rfl (lv_at hl 0 rfl) ?_
    obtain ⟨r28, h28r, hf⟩ := o_bs hf
    refine k_goi (va_runV (As := []) (rest := []) ⟨hx, hb, hml, hown, hts⟩ (zX5_bad l D cy sa q rest H.size u  r28 h28r) (cwV 0 hts (gB_V wB102 wB103 wB104 wB2 wB105) rfl rfl rfl (by decide +kernel) ⟨Nat.le_of_ble_eq_true rfl, Nat.le_of_ble_eq_true rfl⟩) ⟨kP.blind, k_recv hE hP (ci := 5) (q0 := 0) rfl rfl, k_pre hP hD hS hE hA⟩ rfl rfl hl.1 rfl (lv_room (Nat.le_of_ble_eq_true rfl)) dX5_gone_28 ⟨Nat.zero_le _, Nat.zero_le _⟩) hD hS hA (fun H locs hP hD hS => ?_)
    obtain rfl := o_ret hf
    exact k_iret hx hb hr hP hD hS (Nat.zero_le _) (Nat.zero_le _) hlocks dX5_gone_31
  · have hf := o_in c4 hf
    refine lv_iload_n hx hb dX5_gone_7 rfl (lv_at hl 2 rfl) ?_
    refine lv_if_lt (tgt := 27) hx hb dX5_gone_8 (by decide) (fun c8 => ?_) (fun c8 => ?_)
    · have hf := o_ip c8 hf
      refine lv_aload_n hx hb dX5_gone_27 rfl (lv_at hl 0 rfl) ?_
      obtain ⟨r28, h28r, hf⟩ := o_bs hf
      refine k_goi (va_runV (As := []) (rest := []) ⟨hx, hb, hml, hown, hts⟩ (zX5_bad l D cy sa q rest H.size u  r28 h28r) (cwV 0 hts (gB_V wB102 wB103 wB104 wB2 wB105) rfl rfl rfl (by decide +kernel) ⟨Nat.le_of_ble_eq_true rfl, Nat.le_of_ble_eq_true rfl⟩) ⟨kP.blind, k_recv hE hP (ci := 5) (q0 := 0) rfl rfl, k_pre hP hD hS hE hA⟩ rfl rfl hl.1 rfl (lv_room (Nat.le_of_ble_eq_true rfl)) dX5_gone_28 ⟨Nat.zero_le _, Nat.zero_le _⟩) hD hS hA (fun H locs hP hD hS => ?_)
      obtain rfl := o_ret hf
      exact k_iret hx hb hr hP hD hS (Nat.zero_le _) (Nat.zero_le _) hlocks dX5_gone_31
    · have hf := o_in c8 hf
      refine lv_iload_n hx hb dX5_gone_11 rfl (lv_at hl 2 rfl) ?_
      refine lv_bipush (v := 9) hx hb dX5_gone_12 (by decide) ?_
      refine lv_icmp_gt (tgt := 27) hx hb dX5_gone_14 (by decide) (fun c14 => ?_) (fun c14 => ?_)
      · have hf := o_ip c14 hf
        refine lv_aload_n hx hb dX5_gone_27 rfl (lv_at hl 0 rfl) ?_
        obtain ⟨r28, h28r, hf⟩ := o_bs hf
        refine k_goi (va_runV (As := []) (rest := []) ⟨hx, hb, hml, hown, hts⟩ (zX5_bad l D cy sa q rest H.size u  r28 h28r) (cwV 0 hts (gB_V wB102 wB103 wB104 wB2 wB105) rfl rfl rfl (by decide +kernel) ⟨Nat.le_of_ble_eq_true rfl, Nat.le_of_ble_eq_true rfl⟩) ⟨kP.blind, k_recv hE hP (ci := 5) (q0 := 0) rfl rfl, k_pre hP hD hS hE hA⟩ rfl rfl hl.1 rfl (lv_room (Nat.le_of_ble_eq_true rfl)) dX5_gone_28 ⟨Nat.zero_le _, Nat.zero_le _⟩) hD hS hA (fun H locs hP hD hS => ?_)
        obtain rfl := o_ret hf
        exact k_iret hx hb hr hP hD hS (Nat.zero_le _) (Nat.zero_le _) hlocks dX5_gone_31
      · have hf := o_in c14 hf
        refine lv_iload_n hx hb dX5_gone_17 rfl (lv_at hl 3 rfl) ?_
        refine lv_if_lt (tgt := 27) hx hb dX5_gone_18 (by decide) (fun c18 => ?_) (fun c18 => ?_)
        · have hf := o_ip c18 hf
          refine lv_aload_n hx hb dX5_gone_27 rfl (lv_at hl 0 rfl) ?_
          obtain ⟨r28, h28r, hf⟩ := o_bs hf
          refine k_goi (va_runV (As := []) (rest := []) ⟨hx, hb, hml, hown, hts⟩ (zX5_bad l D cy sa q rest H.size u  r28 h28r) (cwV 0 hts (gB_V wB102 wB103 wB104 wB2 wB105) rfl rfl rfl (by decide +kernel) ⟨Nat.le_of_ble_eq_true rfl, Nat.le_of_ble_eq_true rfl⟩) ⟨kP.blind, k_recv hE hP (ci := 5) (q0 := 0) rfl rfl, k_pre hP hD hS hE hA⟩ rfl rfl hl.1 rfl (lv_room (Nat.le_of_ble_eq_true rfl)) dX5_gone_28 ⟨Nat.zero_le _, Nat.zero_le _⟩) hD hS hA (fun H locs hP hD hS => ?_)
          obtain rfl := o_ret hf
          exact k_iret hx hb hr hP hD hS (Nat.zero_le _) (Nat.zero_le _) hlocks dX5_gone_31
        · have hf := o_in c18 hf
          refine lv_iload_n hx hb dX5_gone_21 rfl (lv_at hl 3 rfl) ?_
          refine lv_bipush (v := 20) hx hb dX5_gone_22 (by decide) ?_
          refine lv_icmp_le (tgt := 32) hx hb dX5_gone_24 (by decide) (fun c24 => ?_) (fun c24 => ?_)
          · have hf := o_ip c24 hf
            refine lv_aload_n hx hb dX5_gone_32 rfl (lv_at hl 0 rfl) ?_
            refine va_get (ci := 5) (v := .ref (q 21)) (C := RX5) (T := TX5) (N := 9) hx hb hts inlX5 hown hE.1 hP 0 rfl rfl 5 (by decide) (hts _ wB33) (fun _ h9 => h9) rfl dX5_gone_33 ?_
            refine lv_iload_n hx hb dX5_gone_36 rfl (lv_at hl 1 rfl) ?_
            refine lv_iload_n hx hb dX5_gone_37 rfl (lv_at hl 2 rfl) ?_
            refine lv_iload_n hx hb dX5_gone_38 rfl (lv_at hl 3 rfl) ?_
            obtain ⟨r39, h39r, hf⟩ := o_bs hf
            refine k_gov (va_runV (As := [.int a1, .int a2, .int a3]) (rest := []) ⟨hx, hb, hml, hown, hts⟩ (zX1_setGone l D cy sa q rest H.size u a1 a2 a3 r39 h39r) (cwV 3 hts (gB_V wB520 wB521 wB522 wB32 wB523) rfl rfl rfl (by decide +kernel) ⟨Nat.le_of_ble_eq_true rfl, Nat.le_of_ble_eq_true rfl⟩) ⟨kP.blind, k_recv hE hP (ci := 1) (q0 := 21) rfl rfl, k_pre hP hD hS hE hA⟩ rfl rfl hl.1 rfl (lv_room (Nat.le_of_ble_eq_true rfl)) dX5_gone_39 ⟨Nat.zero_le _, Nat.zero_le _⟩) hD hS hA (fun H locs hP hD hS => ?_)
            refine lv_iconst (v := 1) hx hb dX5_gone_42 (by decide) ?_
            obtain rfl := o_ret hf
            exact k_iret hx hb hr hP hD hS (Nat.zero_le _) (Nat.zero_le _) hlocks dX5_gone_43
          · have hf := o_in c24 hf
            refine lv_aload_n hx hb dX5_gone_27 rfl (lv_at hl 0 rfl) ?_
            obtain ⟨r28, h28r, hf⟩ := o_bs hf
            refine k_goi (va_runV (As := []) (rest := []) ⟨hx, hb, hml, hown, hts⟩ (zX5_bad l D cy sa q rest H.size u  r28 h28r) (cwV 0 hts (gB_V wB102 wB103 wB104 wB2 wB105) rfl rfl rfl (by decide +kernel) ⟨Nat.le_of_ble_eq_true rfl, Nat.le_of_ble_eq_true rfl⟩) ⟨kP.blind, k_recv hE hP (ci := 5) (q0 := 0) rfl rfl, k_pre hP hD hS hE hA⟩ rfl rfl hl.1 rfl (lv_room (Nat.le_of_ble_eq_true rfl)) dX5_gone_28 ⟨Nat.zero_le _, Nat.zero_le _⟩) hD hS hA (fun H locs hP hD hS => ?_)
            obtain rfl := o_ret hf
            exact k_iret hx hb hr hP hD hS (Nat.zero_le _) (Nat.zero_le _) hlocks dX5_gone_31
noncomputable def mX5_guess (u : KS) (a1 : Int32) (a2 : Int32) : Option (Int32 × KS) :=
  if a1 < 0 then
  ((mX5_bad u).bind fun r21 =>
  some ((-10), r21.2))
  else
  (if 2731 ≤ a1 then
  ((mX5_bad u).bind fun r21 =>
  some ((-10), r21.2))
  else
  (if a2 < 0 then
  ((mX5_bad u).bind fun r21 =>
  some ((-10), r21.2))
  else
  (if a2 < 4 then
  ((mX2_faultIn a1 a2).bind fun r30 =>
  some (r30, u))
  else
  ((mX5_bad u).bind fun r21 =>
  some ((-10), r21.2)))))
abbrev rmX5_guess : Room := { frames := 3, cells := 0, slots := 0, locals := 64 }
set_option maxRecDepth 100000 in
set_option maxHeartbeats 4000000 in
theorem zX5_guess (l : Launch) (D : va_G) (cy : Nat → ClassId) (sa : Nat → Nat) (q : Nat → Nat) (rest : va_W) (sz : Nat) (u : KS) (a1 : Int32) (a2 : Int32) (res : Int32 × KS) (hf : mX5_guess u a1 a2 = some res) : kMi l yX5_guess (wsK yX5_guess cX5_guess 3 (some .int)) rmX5_guess D cy sa (WX q cy u ++ rest) sz [.ref (q 0), .int a1, .int a2] res.1 (WX q cy res.2 ++ rest) 0 0 := by
  refine kM_of (Qc := fun A => kQi D A res.1 (WX q cy res.2 ++ rest)) (cc := cX5_guess) (maxL := 3) (ret := (some .int)) (by decide) (Nat.le_of_ble_eq_true rfl) ?_
  intro p e s m below meth c A hx hb hml hr hts hown hlocks hin hA hP hD hS hE hsz ls hl
  have hown : s.vm.findClass RX5 = some m.cls := hown
  obtain ⟨H, hH0⟩ : ∃ H, H = s.heap := ⟨_, rfl⟩
  obtain ⟨locs, hlocs0⟩ : ∃ locs : List Loc, locs = [] := ⟨_, rfl⟩
  have hP : va_P D vwCl (WX q cy u ++ rest) H := by rw [hH0]; exact hP
  have hS : va_S A s.heap H locs := by rw [hH0, hlocs0]; exact hS
  have hl : lv_has ls 3 [(0, .ref (q 0)), (1, .int a1), (2, .int a2)] := hl
  suffices hgoal : W p l e rmX5_guess s m ([.ref (q 0), .int a1, .int a2] : List Value).toArray below meth c H locs 0 0 (MQ below (kQi D A res.1 (WX q cy res.2 ++ rest)) ([.ref (q 0), .int a1, .int a2] : List Value).toArray s 0 0 A) (F0 m 0 ls []) by rw [hH0, hlocs0] at hgoal; exact hgoal
  clear hH0 hlocs0
  unfold mX5_guess at hf
  refine lv_iload_n hx hb dX5_guess_0 rfl (lv_at hl 1 rfl) ?_
  refine lv_if_lt (tgt := 20) hx hb dX5_guess_1 (by decide) (fun c1 => ?_) (fun c1 => ?_)
  · have hf := o_ip c1 hf
    refine lv_aload_n hx hb dX5_guess_20 rfl (lv_at hl 0 rfl) ?_
    obtain ⟨r21, h21r, hf⟩ := o_bs hf
    refine k_goi (va_runV (As := []) (rest := []) ⟨hx, hb, hml, hown, hts⟩ (zX5_bad l D cy sa q rest H.size u  r21 h21r) (cwV 0 hts (gB_V wB102 wB103 wB104 wB2 wB105) rfl rfl rfl (by decide +kernel) ⟨Nat.le_of_ble_eq_true rfl, Nat.le_of_ble_eq_true rfl⟩) ⟨kP.blind, k_recv hE hP (ci := 5) (q0 := 0) rfl rfl, k_pre hP hD hS hE hA⟩ rfl rfl hl.1 rfl (lv_room (Nat.le_of_ble_eq_true rfl)) dX5_guess_21 ⟨Nat.zero_le _, Nat.zero_le _⟩) hD hS hA (fun H locs hP hD hS => ?_)
    refine lv_pop hx hb dX5_guess_24 rfl ?_
    refine lv_bipush (v := (-10)) hx hb dX5_guess_25 (by decide) ?_
    obtain rfl := o_ret hf
    exact k_iret hx hb hr hP hD hS (Nat.zero_le _) (Nat.zero_le _) hlocks dX5_guess_27
  · have hf := o_in c1 hf
    refine lv_iload_n hx hb dX5_guess_4 rfl (lv_at hl 1 rfl) ?_
    refine lv_sipush (v := 2731) hx hb dX5_guess_5 (by decide) ?_
    refine lv_icmp_ge (tgt := 20) hx hb dX5_guess_8 (by decide) (fun c8 => ?_) (fun c8 => ?_)
    · have hf := o_ip c8 hf
      refine lv_aload_n hx hb dX5_guess_20 rfl (lv_at hl 0 rfl) ?_
      obtain ⟨r21, h21r, hf⟩ := o_bs hf
      refine k_goi (va_runV (As := []) (rest := []) ⟨hx, hb, hml, hown, hts⟩ (zX5_bad l D cy sa q rest H.size u  r21 h21r) (cwV 0 hts (gB_V wB102 wB103 wB104 wB2 wB105) rfl rfl rfl (by decide +kernel) ⟨Nat.le_of_ble_eq_true rfl, Nat.le_of_ble_eq_true rfl⟩) ⟨kP.blind, k_recv hE hP (ci := 5) (q0 := 0) rfl rfl, k_pre hP hD hS hE hA⟩ rfl rfl hl.1 rfl (lv_room (Nat.le_of_ble_eq_true rfl)) dX5_guess_21 ⟨Nat.zero_le _, Nat.zero_le _⟩) hD hS hA (fun H locs hP hD hS => ?_)
      refine lv_pop hx hb dX5_guess_24 rfl ?_
      refine lv_bipush (v := (-10)) hx hb dX5_guess_25 (by decide) ?_
      obtain rfl := o_ret hf
      exact k_iret hx hb hr hP hD hS (Nat.zero_le _) (Nat.zero_le _) hlocks dX5_guess_27
    · have hf := o_in c8 hf
      refine lv_iload_n hx hb dX5_guess_11 rfl (lv_at hl 2 rfl) ?_
      refine lv_if_lt (tgt := 20) hx hb dX5_guess_12 (by decide) (fun c12 => ?_) (fun c12 => ?_)
      · have hf := o_ip c12 hf
        refine lv_aload_n hx hb dX5_guess_20 rfl (lv_at hl 0 rfl) ?_
        obtain ⟨r21, h21r, hf⟩ := o_bs hf
        refine k_goi (va_runV (As := []) (rest := []) ⟨hx, hb, hml, hown, hts⟩ (zX5_bad l D cy sa q rest H.size u  r21 h21r) (cwV 0 hts (gB_V wB102 wB103 wB104 wB2 wB105) rfl rfl rfl (by decide +kernel) ⟨Nat.le_of_ble_eq_true rfl, Nat.le_of_ble_eq_true rfl⟩) ⟨kP.blind, k_recv hE hP (ci := 5) (q0 := 0) rfl rfl, k_pre hP hD hS hE hA⟩ rfl rfl hl.1 rfl (lv_room (Nat.le_of_ble_eq_true rfl)) dX5_guess_21 ⟨Nat.zero_le _, Nat.zero_le _⟩) hD hS hA (fun H locs hP hD hS => ?_)
        refine lv_pop hx hb dX5_guess_24 rfl ?_
        refine lv_bipush (v := (-10)) hx hb dX5_guess_25 (by decide) ?_
        obtain rfl := o_ret hf
        exact k_iret hx hb hr hP hD hS (Nat.zero_le _) (Nat.zero_le _) hlocks dX5_guess_27
      · have hf := o_in c12 hf
        refine lv_iload_n hx hb dX5_guess_15 rfl (lv_at hl 2 rfl) ?_
        refine lv_iconst (v := 4) hx hb dX5_guess_16 (by decide) ?_
        refine lv_icmp_lt (tgt := 28) hx hb dX5_guess_17 (by decide) (fun c17 => ?_) (fun c17 => ?_)
        · have hf := o_ip c17 hf
          refine lv_iload_n hx hb dX5_guess_28 rfl (lv_at hl 1 rfl) ?_
          refine lv_iload_n hx hb dX5_guess_29 rfl (lv_at hl 2 rfl) ?_
          obtain ⟨r30, h30r, hf⟩ := o_bs hf
          refine k_goi (va_runS (As := [.int a1, .int a2]) (rest := []) ⟨hx, hb, hml, hown, hts⟩ (zX2_faultIn l D cy sa (WX q cy u ++ rest) H.size a1 a2  r30  h30r) (va_cwS 2 hts (gB_S wB473 wB439 wB24 wB440) rfl rfl rfl (by decide +kernel) ⟨Nat.le_of_ble_eq_true rfl, Nat.le_of_ble_eq_true rfl⟩) ⟨kP.blind, k_pre hP hD hS hE hA⟩ rfl rfl hl.1 rfl (lv_room (Nat.le_of_ble_eq_true rfl)) dX5_guess_30 ⟨Nat.zero_le _, Nat.zero_le _⟩) hD hS hA (fun H locs hP hD hS => ?_)
          obtain rfl := o_ret hf
          exact k_iret hx hb hr hP hD hS (Nat.zero_le _) (Nat.zero_le _) hlocks dX5_guess_33
        · have hf := o_in c17 hf
          refine lv_aload_n hx hb dX5_guess_20 rfl (lv_at hl 0 rfl) ?_
          obtain ⟨r21, h21r, hf⟩ := o_bs hf
          refine k_goi (va_runV (As := []) (rest := []) ⟨hx, hb, hml, hown, hts⟩ (zX5_bad l D cy sa q rest H.size u  r21 h21r) (cwV 0 hts (gB_V wB102 wB103 wB104 wB2 wB105) rfl rfl rfl (by decide +kernel) ⟨Nat.le_of_ble_eq_true rfl, Nat.le_of_ble_eq_true rfl⟩) ⟨kP.blind, k_recv hE hP (ci := 5) (q0 := 0) rfl rfl, k_pre hP hD hS hE hA⟩ rfl rfl hl.1 rfl (lv_room (Nat.le_of_ble_eq_true rfl)) dX5_guess_21 ⟨Nat.zero_le _, Nat.zero_le _⟩) hD hS hA (fun H locs hP hD hS => ?_)
          refine lv_pop hx hb dX5_guess_24 rfl ?_
          refine lv_bipush (v := (-10)) hx hb dX5_guess_25 (by decide) ?_
          obtain rfl := o_ret hf
          exact k_iret hx hb hr hP hD hS (Nat.zero_le _) (Nat.zero_le _) hlocks dX5_guess_27
noncomputable def mX5_harvest (u : KS) (a1 : Int32) (a2 : Int32) (a3 : Int32) (a4 : Int32) : Option (Int32 × KS) :=
  if a2 < 0 then
  ((mX5_bad u).bind fun r16 =>
  some (r16.1, r16.2))
  else
  ((mX5_isPlan a1 a2 a3 a4).bind fun r9 =>
  if r9 = 0 then
  ((mX5_bad u).bind fun r16 =>
  some (r16.1, r16.2))
  else
  ((mX4_make u a1 a2 a3 a4).bind fun r29 =>
  (mX5_at_ 5 (gA r29 1) a1).bind fun r44 =>
  (mX1_setShare r29 r44 (gL r29 1)).bind fun r54 =>
  some (1, r54)))
abbrev rmX5_harvest : Room := { frames := 4, cells := 0, slots := 0, locals := 99 }
set_option maxRecDepth 100000 in
set_option maxHeartbeats 4000000 in
theorem zX5_harvest (l : Launch) (D : va_G) (cy : Nat → ClassId) (sa : Nat → Nat) (q : Nat → Nat) (rest : va_W) (sz : Nat) (u : KS) (a1 : Int32) (a2 : Int32) (a3 : Int32) (a4 : Int32) (res : Int32 × KS) (hf : mX5_harvest u a1 a2 a3 a4 = some res) : kMi l yX5_harvest (wsK yX5_harvest cX5_harvest 5 (some .int)) rmX5_harvest D cy sa (WX q cy u ++ rest) sz [.ref (q 0), .int a1, .int a2, .int a3, .int a4] res.1 (WX q cy res.2 ++ rest) 0 0 := by
  refine kM_of (Qc := fun A => kQi D A res.1 (WX q cy res.2 ++ rest)) (cc := cX5_harvest) (maxL := 5) (ret := (some .int)) (by decide) (Nat.le_of_ble_eq_true rfl) ?_
  intro p e s m below meth c A hx hb hml hr hts hown hlocks hin hA hP hD hS hE hsz ls hl
  have hown : s.vm.findClass RX5 = some m.cls := hown
  obtain ⟨H, hH0⟩ : ∃ H, H = s.heap := ⟨_, rfl⟩
  obtain ⟨locs, hlocs0⟩ : ∃ locs : List Loc, locs = [] := ⟨_, rfl⟩
  have hP : va_P D vwCl (WX q cy u ++ rest) H := by rw [hH0]; exact hP
  have hS : va_S A s.heap H locs := by rw [hH0, hlocs0]; exact hS
  have hl : lv_has ls 5 [(0, .ref (q 0)), (1, .int a1), (2, .int a2), (3, .int a3), (4, .int a4)] := hl
  suffices hgoal : W p l e rmX5_harvest s m ([.ref (q 0), .int a1, .int a2, .int a3, .int a4] : List Value).toArray below meth c H locs 0 0 (MQ below (kQi D A res.1 (WX q cy res.2 ++ rest)) ([.ref (q 0), .int a1, .int a2, .int a3, .int a4] : List Value).toArray s 0 0 A) (F0 m 0 ls []) by rw [hH0, hlocs0] at hgoal; exact hgoal
  clear hH0 hlocs0
  unfold mX5_harvest at hf
  refine lv_iload_n hx hb dX5_harvest_0 rfl (lv_at hl 2 rfl) ?_
  refine lv_if_lt (tgt := 15) hx hb dX5_harvest_1 (by decide) (fun c1 => ?_) (fun c1 => ?_)
  · have hf := o_ip c1 hf
    refine lv_aload_n hx hb dX5_harvest_15 rfl (lv_at hl 0 rfl) ?_
    obtain ⟨r16, h16r, hf⟩ := o_bs hf
    refine k_goi (va_runV (As := []) (rest := []) ⟨hx, hb, hml, hown, hts⟩ (zX5_bad l D cy sa q rest H.size u  r16 h16r) (cwV 0 hts (gB_V wB102 wB103 wB104 wB2 wB105) rfl rfl rfl (by decide +kernel) ⟨Nat.le_of_ble_eq_true rfl, Nat.le_of_ble_eq_true rfl⟩) ⟨kP.blind, k_recv hE hP (ci := 5) (q0 := 0) rfl rfl, k_pre hP hD hS hE hA⟩ rfl rfl hl.1 rfl (lv_room (Nat.le_of_ble_eq_true rfl)) dX5_harvest_16 ⟨Nat.zero_le _, Nat.zero_le _⟩) hD hS hA (fun H locs hP hD hS => ?_)
    obtain rfl := o_ret hf
    exact k_iret hx hb hr hP hD hS (Nat.zero_le _) (Nat.zero_le _) hlocks dX5_harvest_19
  · have hf := o_in c1 hf
    refine lv_iload_n hx hb dX5_harvest_4 rfl (lv_at hl 1 rfl) ?_
    refine lv_iload_n hx hb dX5_harvest_5 rfl (lv_at hl 2 rfl) ?_
    refine lv_iload_n hx hb dX5_harvest_6 rfl (lv_at hl 3 rfl) ?_
    refine lv_iload hx hb dX5_harvest_7 (lv_at hl 4 rfl) ?_
    obtain ⟨r9, h9r, hf⟩ := o_bs hf
    refine k_goi (va_runS (As := [.int a1, .int a2, .int a3, .int a4]) (rest := []) ⟨hx, hb, hml, hown, hts⟩ (zX5_isPlan l D cy sa (WX q cy u ++ rest) H.size a1 a2 a3 a4  r9  h9r) (va_cwS 4 hts (gB_S wB543 wB544 wB2 wB545) rfl rfl rfl (by decide +kernel) ⟨Nat.le_of_ble_eq_true rfl, Nat.le_of_ble_eq_true rfl⟩) ⟨kP.blind, k_pre hP hD hS hE hA⟩ rfl rfl hl.1 rfl (lv_room (Nat.le_of_ble_eq_true rfl)) dX5_harvest_9 ⟨Nat.zero_le _, Nat.zero_le _⟩) hD hS hA (fun H locs hP hD hS => ?_)
    refine lv_if_ne (tgt := 20) hx hb dX5_harvest_12 (by decide) (fun c12 => ?_) (fun c12 => ?_)
    · have hf := o_in c12 hf
      refine lv_aload_n hx hb dX5_harvest_20 rfl (lv_at hl 0 rfl) ?_
      refine va_get (ci := 5) (v := .ref (q 19)) (C := RX5) (T := TX5) (N := 9) hx hb hts inlX5 hown hE.1 hP 0 rfl rfl 4 (by decide) (hts _ wB29) (fun _ h9 => h9) rfl dX5_harvest_21 ?_
      refine lv_iload_n hx hb dX5_harvest_24 rfl (lv_at hl 1 rfl) ?_
      refine lv_iload_n hx hb dX5_harvest_25 rfl (lv_at hl 2 rfl) ?_
      refine lv_iload_n hx hb dX5_harvest_26 rfl (lv_at hl 3 rfl) ?_
      refine lv_iload hx hb dX5_harvest_27 (lv_at hl 4 rfl) ?_
      obtain ⟨r29, h29r, hf⟩ := o_bs hf
      refine k_gov (va_runV (As := [.int a1, .int a2, .int a3, .int a4]) (rest := []) ⟨hx, hb, hml, hown, hts⟩ (zX4_make l D cy sa q rest H.size u a1 a2 a3 a4 r29 h29r) (cwV 4 hts (gB_V wB546 wB547 wB548 wB28 wB549) rfl rfl rfl (by decide +kernel) ⟨Nat.le_of_ble_eq_true rfl, Nat.le_of_ble_eq_true rfl⟩) ⟨kP.blind, k_recv hE hP (ci := 4) (q0 := 19) rfl rfl, k_pre hP hD hS hE hA⟩ rfl rfl hl.1 rfl (lv_room (Nat.le_of_ble_eq_true rfl)) dX5_harvest_29 ⟨Nat.zero_le _, Nat.zero_le _⟩) hD hS hA (fun H locs hP hD hS => ?_)
      refine lv_aload_n hx hb dX5_harvest_32 rfl (lv_at hl 0 rfl) ?_
      refine va_get (ci := 5) (v := .ref (q 21)) (C := RX5) (T := TX5) (N := 9) hx hb hts inlX5 hown hE.1 hP 0 rfl rfl 5 (by decide) (hts _ wB33) (fun _ h9 => h9) rfl dX5_harvest_33 ?_
      refine lv_aload_n hx hb dX5_harvest_36 rfl (lv_at hl 0 rfl) ?_
      refine va_get (ci := 5) (v := .ref (q 19)) (C := RX5) (T := TX5) (N := 9) hx hb hts inlX5 hown hE.1 hP 0 rfl rfl 4 (by decide) (hts _ wB29) (fun _ h9 => h9) rfl dX5_harvest_37 ?_
      refine va_get (ci := 4) (v := .ref (q 20)) (C := RX4) (T := TX4) (N := 3) hx hb hts inlX4 hown hE.1 hP 19 rfl rfl 0 (by decide) (hts _ wB541) (fun _ h9 => h9) rfl dX5_harvest_40 ?_
      refine lv_iload_n hx hb dX5_harvest_43 rfl (lv_at hl 1 rfl) ?_
      obtain ⟨r44, h44r, hf⟩ := o_bs hf
      refine k_gol (va_runS (As := [.ref (q 20), .int a1]) (rest := [.ref (q 21)]) ⟨hx, hb, hml, hown, hts⟩ (zX5_at_ l D cy sa (WX q cy r29 ++ rest) H.size 20 (q 20) 5 (gA r29 1) a1 r44 rfl h44r) (va_cwS 2 hts (gB_S wB565 wB413 wB2 wB414) rfl rfl rfl (by decide +kernel) ⟨Nat.le_of_ble_eq_true rfl, Nat.le_of_ble_eq_true rfl⟩) ⟨kP.blind, k_pre hP hD hS hE hA⟩ rfl rfl hl.1 rfl (lv_room (Nat.le_of_ble_eq_true rfl)) dX5_harvest_44 ⟨Nat.zero_le _, Nat.zero_le _⟩) hD hS hA (fun H locs hP hD hS => ?_)
      refine lv_aload_n hx hb dX5_harvest_47 rfl (lv_at hl 0 rfl) ?_
      refine va_get (ci := 5) (v := .ref (q 19)) (C := RX5) (T := TX5) (N := 9) hx hb hts inlX5 hown hE.1 hP 0 rfl rfl 4 (by decide) (hts _ wB29) (fun _ h9 => h9) rfl dX5_harvest_48 ?_
      refine va_get (ci := 4) (v := .long (gL r29 1)) (C := RX4) (T := TX4) (N := 3) hx hb hts inlX4 hown hE.1 hP 19 rfl rfl 1 (by decide) (hts _ wB542) (fun _ h9 => h9) rfl dX5_harvest_51 ?_
      obtain ⟨r54, h54r, hf⟩ := o_bs hf
      refine k_gov (va_runV (As := [.long r44, .long (gL r29 1)]) (rest := []) ⟨hx, hb, hml, hown, hts⟩ (zX1_setShare l D cy sa q rest H.size r29 r44 (gL r29 1) r54 h54r) (cwV 2 hts (gB_V wB423 wB424 wB425 wB32 wB426) rfl rfl rfl (by decide +kernel) ⟨Nat.le_of_ble_eq_true rfl, Nat.le_of_ble_eq_true rfl⟩) ⟨kP.blind, k_recv hE hP (ci := 1) (q0 := 21) rfl rfl, k_pre hP hD hS hE hA⟩ rfl rfl hl.1 rfl (lv_room (Nat.le_of_ble_eq_true rfl)) dX5_harvest_54 ⟨Nat.zero_le _, Nat.zero_le _⟩) hD hS hA (fun H locs hP hD hS => ?_)
      refine lv_iconst (v := 1) hx hb dX5_harvest_57 (by decide) ?_
      obtain rfl := o_ret hf
      exact k_iret hx hb hr hP hD hS (Nat.zero_le _) (Nat.zero_le _) hlocks dX5_harvest_58
    · have hf := o_ip c12 hf
      refine lv_aload_n hx hb dX5_harvest_15 rfl (lv_at hl 0 rfl) ?_
      obtain ⟨r16, h16r, hf⟩ := o_bs hf
      refine k_goi (va_runV (As := []) (rest := []) ⟨hx, hb, hml, hown, hts⟩ (zX5_bad l D cy sa q rest H.size u  r16 h16r) (cwV 0 hts (gB_V wB102 wB103 wB104 wB2 wB105) rfl rfl rfl (by decide +kernel) ⟨Nat.le_of_ble_eq_true rfl, Nat.le_of_ble_eq_true rfl⟩) ⟨kP.blind, k_recv hE hP (ci := 5) (q0 := 0) rfl rfl, k_pre hP hD hS hE hA⟩ rfl rfl hl.1 rfl (lv_room (Nat.le_of_ble_eq_true rfl)) dX5_harvest_16 ⟨Nat.zero_le _, Nat.zero_le _⟩) hD hS hA (fun H locs hP hD hS => ?_)
      obtain rfl := o_ret hf
      exact k_iret hx hb hr hP hD hS (Nat.zero_le _) (Nat.zero_le _) hlocks dX5_harvest_19
noncomputable def mX5_hidden_s25 (u : KS) (s25 : Int32 × Int32) : Option ((Int32) ⊕ (Int32 × Int32)) :=
  if 7 ≤ s25.2 then
  (some (.inl s25.1))
  else
  ((mX5_faultOf s25.2 3).bind fun r37 =>
  (mX0_givesNothing u r37).bind fun r40 =>
  if r40 = 0 then
  (some (.inr (s25.1, (s25.2 + 1))))
  else
  (some (.inr ((s25.1 ||| (((1 : Int32) <<< (s25.2 &&& 31)) : Int32)), (s25.2 + 1)))))
noncomputable def mX5_hidden (u : KS) : Option (Int32 × KS) :=
  (mX5_dayIsFaulty u).bind fun r1 =>
  if r1.1 = 0 then
  ((mX0_heat r1.2 100).bind fun r18 =>
  (lpF (mX5_hidden_s25 r18) (0, 0)).bind fun e25 =>
  (mX5_at 4 (gR r18 2) 0).bind fun r70 =>
  (mX0_heat r18 r70).bind fun r73 =>
  some (e25, r73))
  else
  ((mX5_no r1.2).bind fun r8 =>
  some (r8.1, r8.2))
abbrev rmX5_hidden : Room := { frames := 10, cells := 0, slots := 0, locals := 217 }
set_option maxRecDepth 100000 in
set_option maxHeartbeats 4000000 in
theorem zX5_hidden (l : Launch) (D : va_G) (cy : Nat → ClassId) (sa : Nat → Nat) (q : Nat → Nat) (rest : va_W) (sz : Nat) (u : KS) (res : Int32 × KS) (hf : mX5_hidden u = some res) : kMi l yX5_hidden (wsK yX5_hidden cX5_hidden 3 (some .int)) rmX5_hidden D cy sa (WX q cy u ++ rest) sz [.ref (q 0)] res.1 (WX q cy res.2 ++ rest) 0 0 := by
  refine kM_of (Qc := fun A => kQi D A res.1 (WX q cy res.2 ++ rest)) (cc := cX5_hidden) (maxL := 3) (ret := (some .int)) (by decide) (Nat.le_of_ble_eq_true rfl) ?_
  intro p e s m below meth c A hx hb hml hr hts hown hlocks hin hA hP hD hS hE hsz ls hl
  have hown : s.vm.findClass RX5 = some m.cls := hown
  obtain ⟨H, hH0⟩ : ∃ H, H = s.heap := ⟨_, rfl⟩
  obtain ⟨locs, hlocs0⟩ : ∃ locs : List Loc, locs = [] := ⟨_, rfl⟩
  have hP : va_P D vwCl (WX q cy u ++ rest) H := by rw [hH0]; exact hP
  have hS : va_S A s.heap H locs := by rw [hH0, hlocs0]; exact hS
  have hl : lv_has ls 3 [(0, .ref (q 0))] := hl
  suffices hgoal : W p l e rmX5_hidden s m ([.ref (q 0)] : List Value).toArray below meth c H locs 0 0 (MQ below (kQi D A res.1 (WX q cy res.2 ++ rest)) ([.ref (q 0)] : List Value).toArray s 0 0 A) (F0 m 0 ls []) by rw [hH0, hlocs0] at hgoal; exact hgoal
  clear hH0 hlocs0
  unfold mX5_hidden at hf
  refine lv_aload_n hx hb dX5_hidden_0 rfl (lv_at hl 0 rfl) ?_
  obtain ⟨r1, h1r, hf⟩ := o_bs hf
  refine k_goi (va_runV (As := []) (rest := []) ⟨hx, hb, hml, hown, hts⟩ (zX5_dayIsFaulty l D cy sa q rest H.size u  r1 h1r) (cwV 0 hts (gB_V wB295 wB296 wB297 wB2 wB298) rfl rfl rfl (by decide +kernel) ⟨Nat.le_of_ble_eq_true rfl, Nat.le_of_ble_eq_true rfl⟩) ⟨kP.blind, k_recv hE hP (ci := 5) (q0 := 0) rfl rfl, k_pre hP hD hS hE hA⟩ rfl rfl hl.1 rfl (lv_room (Nat.le_of_ble_eq_true rfl)) dX5_hidden_1 ⟨Nat.zero_le _, Nat.zero_le _⟩) hD hS hA (fun H locs hP hD hS => ?_)
  refine lv_if_eq (tgt := 12) hx hb dX5_hidden_4 (by decide) (fun c4 => ?_) (fun c4 => ?_)
  · have hf := o_ip c4 hf
    refine lv_aload_n hx hb dX5_hidden_12 rfl (lv_at hl 0 rfl) ?_
    refine va_get (ci := 5) (v := .ref (q 10)) (C := RX5) (T := TX5) (N := 9) hx hb hts inlX5 hown hE.1 hP 0 rfl rfl 2 (by decide) (hts _ wB21) (fun _ h9 => h9) rfl dX5_hidden_13 ?_
    refine lv_bipush (v := 100) hx hb dX5_hidden_16 (by decide) ?_
    obtain ⟨r18, h18r, hf⟩ := o_bs hf
    refine k_gov (va_runV (As := [.int 100]) (rest := []) ⟨hx, hb, hml, hown, hts⟩ (zX0_heat l D cy sa q rest H.size r1.2 100 r18 h18r) (cwV 1 hts (gB_V wB245 wB246 wB247 wB20 wB248) rfl rfl rfl (by decide +kernel) ⟨Nat.le_of_ble_eq_true rfl, Nat.le_of_ble_eq_true rfl⟩) ⟨kP.blind, k_recv hE hP (ci := 0) (q0 := 10) rfl rfl, k_pre hP hD hS hE hA⟩ rfl rfl hl.1 rfl (lv_room (Nat.le_of_ble_eq_true rfl)) dX5_hidden_18 ⟨Nat.zero_le _, Nat.zero_le _⟩) hD hS hA (fun H locs hP hD hS => ?_)
    refine lv_iconst (v := 0) hx hb dX5_hidden_21 (by decide) ?_
    refine lv_istore_n (lv' := [(1, .int 0), (0, .ref (q 0))]) hx hb dX5_hidden_22 rfl hl (by decide) rfl (fun ls hl => ?_)
    refine lv_iconst (v := 0) hx hb dX5_hidden_23 (by decide) ?_
    refine lv_istore_n (lv' := [(2, .int 0), (1, .int 0), (0, .ref (q 0))]) hx hb dX5_hidden_24 rfl hl (by decide) rfl (fun ls hl => ?_)
    have L25 : ∀ (n25v : Nat) (s25 : Int32 × Int32) (e25 : Int32), lpO (mX5_hidden_s25 r18) n25v s25 = some e25 → ∀ (H : Heap) (locs : List Loc) (ls : Array Slot), va_P D vwCl (WX q cy r18 ++ rest) H → va_D A (WX q cy r18 ++ rest) → va_S A s.heap H locs → lv_has ls 3 [(0, .ref (q 0)), (1, .int s25.1), (2, .int s25.2)] → (∀ (H : Heap) (locs : List Loc) (ls : Array Slot), va_P D vwCl (WX q cy r18 ++ rest) H → va_D A (WX q cy r18 ++ rest) → va_S A s.heap H locs → lv_has ls 3 [(0, .ref (q 0)), (1, .int e25)] → W p l e rmX5_hidden s m ([.ref (q 0)] : List Value).toArray below meth c H locs 0 0 (MQ below (kQi D A res.1 (WX q cy res.2 ++ rest)) ([.ref (q 0)] : List Value).toArray s 0 0 A) (F0 m 58 ls [])) → W p l e rmX5_hidden s m ([.ref (q 0)] : List Value).toArray below meth c H locs 0 0 (MQ below (kQi D A res.1 (WX q cy res.2 ++ rest)) ([.ref (q 0)] : List Value).toArray s 0 0 A) (F0 m 25 ls []) := by
      intro n25v
      induction n25v with
      | zero => intro s25 e25 h; exact (lpO_z h).elim
      | succ n25v ih25 =>
        intro s25 e25 h25z H locs ls hP hD hS hl K25_0
        obtain ⟨x25, hf, h25z⟩ := lpO_s h25z
        unfold mX5_hidden_s25 at hf
        refine lv_iload_n hx hb dX5_hidden_25 rfl (lv_at hl 2 rfl) ?_
        refine lv_bipush (v := 7) hx hb dX5_hidden_26 (by decide) ?_
        refine lv_icmp_ge (tgt := 58) hx hb dX5_hidden_28 (by decide) (fun c28 => ?_) (fun c28 => ?_)
        · have hf := o_ip c28 hf
          obtain rfl := o_ret hf
          obtain rfl := lpK_l h25z
          exact K25_0 _ _ _ hP hD hS (lv_sub hl [0, 1] rfl)
        · have hf := o_in c28 hf
          refine lv_aload_n hx hb dX5_hidden_31 rfl (lv_at hl 0 rfl) ?_
          refine va_get (ci := 5) (v := .ref (q 10)) (C := RX5) (T := TX5) (N := 9) hx hb hts inlX5 hown hE.1 hP 0 rfl rfl 2 (by decide) (hts _ wB21) (fun _ h9 => h9) rfl dX5_hidden_32 ?_
          refine lv_iload_n hx hb dX5_hidden_35 rfl (lv_at hl 2 rfl) ?_
          refine lv_iconst (v := 3) hx hb dX5_hidden_36 (by decide) ?_
          obtain ⟨r37, h37r, hf⟩ := o_bs hf
          refine k_goi (va_runS (As := [.int s25.2, .int 3]) (rest := [.ref (q 10)]) ⟨hx, hb, hml, hown, hts⟩ (zX5_faultOf l D cy sa (WX q cy r18 ++ rest) H.size s25.2 3  r37  h37r) (va_cwS 2 hts (gB_S wB322 wB323 wB2 wB324) rfl rfl rfl (by decide +kernel) ⟨Nat.le_of_ble_eq_true rfl, Nat.le_of_ble_eq_true rfl⟩) ⟨kP.blind, k_pre hP hD hS hE hA⟩ rfl rfl hl.1 rfl (lv_room (Nat.le_of_ble_eq_true rfl)) dX5_hidden_37 ⟨Nat.zero_le _, Nat.zero_le _⟩) hD hS hA (fun H locs hP hD hS => ?_)
          obtain ⟨r40, h40r, hf⟩ := o_bs hf
          refine k_goi (va_runV (As := [.int r37]) (rest := []) ⟨hx, hb, hml, hown, hts⟩ (zX0_givesNothing l D cy sa q rest H.size r18 r37 r40 h40r) (cwV 1 hts (gB_V wB512 wB513 wB514 wB20 wB515) rfl rfl rfl (by decide +kernel) ⟨Nat.le_of_ble_eq_true rfl, Nat.le_of_ble_eq_true rfl⟩) ⟨kP.blind, k_recv hE hP (ci := 0) (q0 := 10) rfl rfl, k_pre hP hD hS hE hA⟩ rfl rfl hl.1 rfl (lv_room (Nat.le_of_ble_eq_true rfl)) dX5_hidden_40 ⟨Nat.zero_le _, Nat.zero_le _⟩) hD hS hA (fun H locs hP hD hS => ?_)
          refine lv_if_eq (tgt := 52) hx hb dX5_hidden_43 (by decide) (fun c43 => ?_) (fun c43 => ?_)
          · have hf := o_ip c43 hf
            refine lv_iinc (v := (s25.2 + 1)) (lv' := [(2, .int (s25.2 + 1)), (0, .ref (q 0)), (1, .int s25.1)]) hx hb dX5_hidden_52 hl (k := 2) rfl (by rfl) (by decide) rfl (fun ls hl => ?_)
            refine lv_goto (tgt := 25) hx hb dX5_hidden_55 (by decide) ?_
            obtain rfl := o_ret hf
            exact ih25 _ _ (lpK_r h25z) _ _ _ hP hD hS (lv_sub hl [1, 2, 0] rfl) K25_0
          · have hf := o_in c43 hf
            refine lv_iload_n hx hb dX5_hidden_46 rfl (lv_at hl 1 rfl) ?_
            refine lv_iconst (v := 1) hx hb dX5_hidden_47 (by decide) ?_
            refine lv_iload_n hx hb dX5_hidden_48 rfl (lv_at hl 2 rfl) ?_
            refine lv_ishl hx hb dX5_hidden_49 ?_
            refine lv_ior hx hb dX5_hidden_50 ?_
            refine lv_istore_n (lv' := [(1, .int (s25.1 ||| (((1 : Int32) <<< (s25.2 &&& 31)) : Int32))), (0, .ref (q 0)), (2, .int s25.2)]) hx hb dX5_hidden_51 rfl hl (by decide) rfl (fun ls hl => ?_)
            refine lv_iinc (v := (s25.2 + 1)) (lv' := [(2, .int (s25.2 + 1)), (1, .int (s25.1 ||| (((1 : Int32) <<< (s25.2 &&& 31)) : Int32))), (0, .ref (q 0))]) hx hb dX5_hidden_52 hl (k := 2) rfl (by rfl) (by decide) rfl (fun ls hl => ?_)
            refine lv_goto (tgt := 25) hx hb dX5_hidden_55 (by decide) ?_
            obtain rfl := o_ret hf
            exact ih25 _ _ (lpK_r h25z) _ _ _ hP hD hS (lv_sub hl [2, 1, 0] rfl) K25_0
    obtain ⟨e25, h25q, hf⟩ := o_bs hf
    obtain ⟨n25v, h25q⟩ := lpF_ex h25q
    refine L25 n25v _ e25 h25q _ _ _ hP hD hS (lv_sub hl [2, 1, 0] rfl) ?_
    intro H locs ls hP hD hS hl
    refine lv_aload_n hx hb dX5_hidden_58 rfl (lv_at hl 0 rfl) ?_
    refine va_get (ci := 5) (v := .ref (q 10)) (C := RX5) (T := TX5) (N := 9) hx hb hts inlX5 hown hE.1 hP 0 rfl rfl 2 (by decide) (hts _ wB21) (fun _ h9 => h9) rfl dX5_hidden_59 ?_
    refine lv_aload_n hx hb dX5_hidden_62 rfl (lv_at hl 0 rfl) ?_
    refine va_get (ci := 5) (v := .ref (q 3)) (C := RX5) (T := TX5) (N := 9) hx hb hts inlX5 hown hE.1 hP 0 rfl rfl 0 (by decide) (hts _ wB16) (fun _ h9 => h9) rfl dX5_hidden_63 ?_
    refine va_get (ci := 3) (v := .ref (q 5)) (C := RX3) (T := TX3) (N := 9) hx hb hts inlX3 hown hE.1 hP 3 rfl rfl 2 (by decide) (hts _ wB136) (fun _ h9 => h9) rfl dX5_hidden_66 ?_
    refine lv_iconst (v := 0) hx hb dX5_hidden_69 (by decide) ?_
    obtain ⟨r70, h70r, hf⟩ := o_bs hf
    refine k_goi (va_runS (As := [.ref (q 5), .int 0]) (rest := [.ref (q 10)]) ⟨hx, hb, hml, hown, hts⟩ (zX5_at l D cy sa (WX q cy r18 ++ rest) H.size 5 (q 5) 4 (gR r18 2) 0 r70 rfl h70r) (va_cwS 2 hts (gB_S wB110 wB111 wB2 wB112) rfl rfl rfl (by decide +kernel) ⟨Nat.le_of_ble_eq_true rfl, Nat.le_of_ble_eq_true rfl⟩) ⟨kP.blind, k_pre hP hD hS hE hA⟩ rfl rfl hl.1 rfl (lv_room (Nat.le_of_ble_eq_true rfl)) dX5_hidden_70 ⟨Nat.zero_le _, Nat.zero_le _⟩) hD hS hA (fun H locs hP hD hS => ?_)
    obtain ⟨r73, h73r, hf⟩ := o_bs hf
    refine k_gov (va_runV (As := [.int r70]) (rest := []) ⟨hx, hb, hml, hown, hts⟩ (zX0_heat l D cy sa q rest H.size r18 r70 r73 h73r) (cwV 1 hts (gB_V wB245 wB246 wB247 wB20 wB248) rfl rfl rfl (by decide +kernel) ⟨Nat.le_of_ble_eq_true rfl, Nat.le_of_ble_eq_true rfl⟩) ⟨kP.blind, k_recv hE hP (ci := 0) (q0 := 10) rfl rfl, k_pre hP hD hS hE hA⟩ rfl rfl hl.1 rfl (lv_room (Nat.le_of_ble_eq_true rfl)) dX5_hidden_73 ⟨Nat.zero_le _, Nat.zero_le _⟩) hD hS hA (fun H locs hP hD hS => ?_)
    refine lv_iload_n hx hb dX5_hidden_76 rfl (lv_at hl 1 rfl) ?_
    obtain rfl := o_ret hf
    exact k_iret hx hb hr hP hD hS (Nat.zero_le _) (Nat.zero_le _) hlocks dX5_hidden_77
  · have hf := o_in c4 hf
    refine lv_aload_n hx hb dX5_hidden_7 rfl (lv_at hl 0 rfl) ?_
    obtain ⟨r8, h8r, hf⟩ := o_bs hf
    refine k_goi (va_runV (As := []) (rest := []) ⟨hx, hb, hml, hown, hts⟩ (zX5_no l D cy sa q rest H.size r1.2  r8 h8r) (cwV 0 hts (gB_V wB299 wB300 wB301 wB2 wB302) rfl rfl rfl (by decide +kernel) ⟨Nat.le_of_ble_eq_true rfl, Nat.le_of_ble_eq_true rfl⟩) ⟨kP.blind, k_recv hE hP (ci := 5) (q0 := 0) rfl rfl, k_pre hP hD hS hE hA⟩ rfl rfl hl.1 rfl (lv_room (Nat.le_of_ble_eq_true rfl)) dX5_hidden_8 ⟨Nat.zero_le _, Nat.zero_le _⟩) hD hS hA (fun H locs hP hD hS => ?_)
    obtain rfl := o_ret hf
    exact k_iret hx hb hr hP hD hS (Nat.zero_le _) (Nat.zero_le _) hlocks dX5_hidden_11
noncomputable def mX5_isCut (a0 : Int32) : Option (Int32) :=
  if a0 = (-1) then
  (some 1)
  else
  (if a0 < 0 then
  (some 0)
  else
  (if 4 ≤ a0 then
  (some 0)
  else
  (some 1)))
abbrev rmX5_isCut : Room := { frames := 0, cells := 0, slots := 0, locals := 0 }
set_option maxRecDepth 100000 in
set_option maxHeartbeats 4000000 in
theorem zX5_isCut (l : Launch) (D : va_G) (cy : Nat → ClassId) (sa : Nat → Nat) (ws : va_W) (sz : Nat) (a0 : Int32) (res : Int32) (hf : mX5_isCut a0 = some res) : kMi l yX5_isCut (wsK yX5_isCut cX5_isCut 1 (some .boolean)) rmX5_isCut D cy sa (ws) sz [.int a0] res (ws) 0 0 := by
  refine kM_of (Qc := fun A => kQi D A res (ws)) (cc := cX5_isCut) (maxL := 1) (ret := (some .boolean)) (by decide) (Nat.le_of_ble_eq_true rfl) ?_
  intro p e s m below meth c A hx hb hml hr hts hown hlocks hin hA hP hD hS hE hsz ls hl
  have hown : s.vm.findClass RX5 = some m.cls := hown
  obtain ⟨H, hH0⟩ : ∃ H, H = s.heap := ⟨_, rfl⟩
  obtain ⟨locs, hlocs0⟩ : ∃ locs : List Loc, locs = [] := ⟨_, rfl⟩
  have hP : va_P D vwCl (ws) H := by rw [hH0]; exact hP
  have hS : va_S A s.heap H locs := by rw [hH0, hlocs0]; exact hS
  have hl : lv_has ls 1 [(0, .int a0)] := hl
  suffices hgoal : W p l e rmX5_isCut s m ([.int a0] : List Value).toArray below meth c H locs 0 0 (MQ below (kQi D A res (ws)) ([.int a0] : List Value).toArray s 0 0 A) (F0 m 0 ls []) by rw [hH0, hlocs0] at hgoal; exact hgoal
  clear hH0 hlocs0
  unfold mX5_isCut at hf
  refine lv_iload_n hx hb dX5_isCut_0 rfl (lv_at hl 0 rfl) ?_
  refine lv_iconst (v := (-1)) hx hb dX5_isCut_1 (by decide) ?_
  refine lv_icmp_eq (tgt := 14) hx hb dX5_isCut_2 (by decide) (fun c2 => ?_) (fun c2 => ?_)
  · have hf := o_ip c2 hf
    refine lv_iconst (v := 1) hx hb dX5_isCut_14 (by decide) ?_
    refine lv_goto (tgt := 19) hx hb dX5_isCut_15 (by decide) ?_
    obtain rfl := o_ret hf
    exact k_zret (v := 1) hx hb hr hP hD hS rfl (Nat.zero_le _) (Nat.zero_le _) hlocks dX5_isCut_19
  · have hf := o_in c2 hf
    refine lv_iload_n hx hb dX5_isCut_5 rfl (lv_at hl 0 rfl) ?_
    refine lv_if_lt (tgt := 18) hx hb dX5_isCut_6 (by decide) (fun c6 => ?_) (fun c6 => ?_)
    · have hf := o_ip c6 hf
      refine lv_iconst (v := 0) hx hb dX5_isCut_18 (by decide) ?_
      obtain rfl := o_ret hf
      exact k_zret (v := 0) hx hb hr hP hD hS rfl (Nat.zero_le _) (Nat.zero_le _) hlocks dX5_isCut_19
    · have hf := o_in c6 hf
      refine lv_iload_n hx hb dX5_isCut_9 rfl (lv_at hl 0 rfl) ?_
      refine lv_iconst (v := 4) hx hb dX5_isCut_10 (by decide) ?_
      refine lv_icmp_ge (tgt := 18) hx hb dX5_isCut_11 (by decide) (fun c11 => ?_) (fun c11 => ?_)
      · have hf := o_ip c11 hf
        refine lv_iconst (v := 0) hx hb dX5_isCut_18 (by decide) ?_
        obtain rfl := o_ret hf
        exact k_zret (v := 0) hx hb hr hP hD hS rfl (Nat.zero_le _) (Nat.zero_le _) hlocks dX5_isCut_19
      · have hf := o_in c11 hf
        refine lv_iconst (v := 1) hx hb dX5_isCut_14 (by decide) ?_
        refine lv_goto (tgt := 19) hx hb dX5_isCut_15 (by decide) ?_
        obtain rfl := o_ret hf
        exact k_zret (v := 1) hx hb hr hP hD hS rfl (Nat.zero_le _) (Nat.zero_le _) hlocks dX5_isCut_19
