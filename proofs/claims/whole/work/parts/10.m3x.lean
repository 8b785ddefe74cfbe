abbrev rmX6_adds : Room := { frames := 1, cells := 0, slots := 0, locals := 21 }
set_option maxRecDepth 100000 in
set_option maxHeartbeats 4000000 in
theorem zX6_adds_v19 (l : Launch) (D : va_G) (cy : Nat → ClassId) (sa : Nat → Nat) (q : Nat → Nat) (rest : va_W) (sz : Nat) (u : KS) (a1 : Int32) (a2 : Int32) (res : KS) (hf : mX6_adds u a1 a2 = some res) : kMv l yX6_adds (wsK yX6_adds cX6_adds 7 none) rmX6_adds D cy sa (WM q cy u ++ rest) sz [.ref (q 0), .int a1, .int a2] (WM q cy res ++ rest) 0 0 := by
  refine kM_of (Qc := fun A => kQv D A (WM q cy res ++ rest)) (cc := cX6_adds) (maxL := 7) (ret := none) (by decide) (Nat.le_of_ble_eq_true rfl) ?_
  intro p e s m below meth c A hx hb hml hr hts hown hlocks hin hA hP hD hS hE hsz ls hl
  have hown : s.vm.findClass RX6 = some m.cls := hown
  obtain ⟨H, hH0⟩ : ∃ H, H = s.heap := ⟨_, rfl⟩
  obtain ⟨locs, hlocs0⟩ : ∃ locs : List Loc, locs = [] := ⟨_, rfl⟩
  have hP : va_P D vwCl (WM q cy u ++ rest) H := by rw [hH0]; exact hP
  have hS : va_S A s.heap H locs := by rw [hH0, hlocs0]; exact hS
  have hl : lv_has ls 7 [(0, .ref (q 0)), (1, .int a1), (2, .int a2)] := hl
  suffices hgoal : W p l e rmX6_adds s m ([.ref (q 0), .int a1, .int a2] : List Value).toArray below meth c H locs 0 0 (MQ below (kQv D A (WM q cy res ++ rest)) ([.ref (q 0), .int a1, .int a2] : List Value).toArray s 0 0 A) (F0 m 0 ls []) by rw [hH0, hlocs0] at hgoal; exact hgoal
  clear hH0 hlocs0
  unfold mX6_adds at hf
  refine lv_iconst (v := 0) hx hb dX6_adds_0 (by decide) ?_
  refine lv_istore_n (lv' := [(3, .int 0), (0, .ref (q 0)), (1, .int a1), (2, .int a2)]) hx hb dX6_adds_1 rfl hl (by decide) rfl (fun ls hl => ?_)
  refine lv_aload_n hx hb dX6_adds_2 rfl (lv_at hl 1 rfl) ?_
  refine va_get (ci := 6) (v := .ref (q 6)) (C := RX6) (T := TX6) (N := 26) hx hb hts inlX6 hown hE.1 hP 0 rfl rfl 6 (by decide) (hts _ wB85) (fun _ h9 => h9) rfl dX6_adds_3 ?_
  refine lv_iload_n hx hb dX6_adds_6 rfl (lv_at hl 2 rfl) ?_
  obtain ⟨hg7, hf⟩ := gd_s hf
  refine va_iald (f := (gR u 5)) hx hb hE.1 hP 6 0 rfl rfl hg7 dX6_adds_7 ?_
  refine lv_aload_n hx hb dX6_adds_8 rfl (lv_at hl 1 rfl) ?_
  refine va_get (ci := 6) (v := .ref (q 6)) (C := RX6) (T := TX6) (N := 26) hx hb hts inlX6 hown hE.1 hP 0 rfl rfl 6 (by decide) (hts _ wB85) (fun _ h9 => h9) rfl dX6_adds_9 ?_
  refine lv_iload_n hx hb dX6_adds_12 rfl (lv_at hl 3 rfl) ?_
  obtain ⟨hg13, hf⟩ := gd_s hf
  refine va_iald (f := (gR u 5)) hx hb hE.1 hP 6 0 rfl rfl hg13 dX6_adds_13 ?_
  refine lv_icmp_le (tgt := 26) hx hb dX6_adds_14 (by decide) (fun c14 => ?_) (fun c14 => ?_)
  · have hf := o_ip c14 hf
    refine lv_aload_n hx hb dX6_adds_26 rfl (lv_at hl 1 rfl) ?_
    refine va_get (ci := 6) (v := .ref (q 6)) (C := RX6) (T := TX6) (N := 26) hx hb hts inlX6 hown hE.1 hP 0 rfl rfl 6 (by decide) (hts _ wB85) (fun _ h9 => h9) rfl dX6_adds_27 ?_
    refine lv_iload_n hx hb dX6_adds_30 rfl (lv_at hl 3 rfl) ?_
    obtain ⟨hg31, hf⟩ := gd_s hf
    refine va_iald (f := (gR u 5)) hx hb hE.1 hP 6 0 rfl rfl hg31 dX6_adds_31 ?_
    refine lv_istore (lv' := [(4, .int ((gR u 5) (a2.toNatClampNeg))), (3, .int 0), (0, .ref (q 0)), (1, .int a1), (2, .int a2)]) hx hb dX6_adds_32 hl (by decide) rfl (fun ls hl => ?_)
    refine lv_iconst (v := 0) hx hb dX6_adds_34 (by decide) ?_
    refine lv_istore (lv' := [(5, .int 0), (4, .int ((gR u 5) (a2.toNatClampNeg))), (3, .int 0), (0, .ref (q 0)), (1, .int a1), (2, .int a2)]) hx hb dX6_adds_35 hl (by decide) rfl (fun ls hl => ?_)
    have L37 : ∀ (n37v : Nat) (s37 : Int32 × Int32 × KS) (e37 : (Int32 × KS)), lpO (mX6_adds_s37 a1 a2 ((gR u 5) (a2.toNatClampNeg))) n37v s37 = some e37 → ∀ (H : Heap) (locs : List Loc) (ls : Array Slot), va_P D vwCl (WM q cy s37.2.2 ++ rest) H → va_D A (WM q cy s37.2.2 ++ rest) → va_S A s.heap H locs → lv_has ls 7 [(0, .ref (q 0)), (1, .int a1), (2, .int a2), (3, .int s37.1), (4, .int ((gR u 5) (a2.toNatClampNeg))), (5, .int s37.2.1)] → (∀ (H : Heap) (locs : List Loc) (ls : Array Slot), va_P D vwCl (WM q cy e37.2 ++ rest) H → va_D A (WM q cy e37.2 ++ rest) → va_S A s.heap H locs → lv_has ls 7 [(0, .ref (q 0)), (1, .int a1), (3, .int e37.1), (4, .int ((gR u 5) (a2.toNatClampNeg)))] → W p l e rmX6_adds s m ([.ref (q 0), .int a1, .int a2] : List Value).toArray below meth c H locs 0 0 (MQ below (kQv D A (WM q cy res ++ rest)) ([.ref (q 0), .int a1, .int a2] : List Value).toArray s 0 0 A) (F0 m 102 ls [])) → W p l e rmX6_adds s m ([.ref (q 0), .int a1, .int a2] : List Value).toArray below meth c H locs 0 0 (MQ below (kQv D A (WM q cy res ++ rest)) ([.ref (q 0), .int a1, .int a2] : List Value).toArray s 0 0 A) (F0 m 37 ls []) := by
      intro n37v
      induction n37v with
      | zero => intro s37 e37 h; exact (lpO_z h).elim
      | succ n37v ih37 =>
        intro s37 e37 h37z H locs ls hP hD hS hl K37_0
        obtain ⟨x37, hf, h37z⟩ := lpO_s h37z
        unfold mX6_adds_s37 at hf
        refine lv_iload hx hb dX6_adds_37 (lv_at hl 5 rfl) ?_
        refine lv_iload hx hb dX6_adds_39 (lv_at hl 4 rfl) ?_
        refine lv_icmp_ge (tgt := 102) hx hb dX6_adds_41 (by decide) (fun c41 => ?_) (fun c41 => ?_)
        · have hf := o_ip c41 hf
          obtain rfl := o_ret hf
          obtain rfl := lpK_l h37z
          exact K37_0 _ _ _ hP hD hS (lv_sub hl [0, 1, 3, 4] rfl)
        · have hf := o_in c41 hf
          refine lv_aload_n hx hb dX6_adds_44 rfl (lv_at hl 0 rfl) ?_
          refine va_get (ci := 6) (v := .ref (q 5)) (C := RX6) (T := TX6) (N := 26) hx hb hts inlX6 hown hE.1 hP 0 rfl rfl 5 (by decide) (hts _ wB84) (fun _ h9 => h9) rfl dX6_adds_45 ?_
          refine lv_bipush (v := 12) hx hb dX6_adds_48 (by decide) ?_
          refine lv_iload_n hx hb dX6_adds_50 rfl (lv_at hl 1 rfl) ?_
          refine lv_imul hx hb dX6_adds_51 ?_
          refine lv_iload hx hb dX6_adds_52 (lv_at hl 5 rfl) ?_
          refine lv_iadd hx hb dX6_adds_54 ?_
          obtain ⟨hg55, hf⟩ := gd_s hf
          refine va_iald (f := (gR s37.2.2 4)) hx hb hE.1 hP 5 0 rfl rfl hg55 dX6_adds_55 ?_
          refine lv_aload_n hx hb dX6_adds_56 rfl (lv_at hl 0 rfl) ?_
          refine va_get (ci := 6) (v := .ref (q 5)) (C := RX6) (T := TX6) (N := 26) hx hb hts inlX6 hown hE.1 hP 0 rfl rfl 5 (by decide) (hts _ wB84) (fun _ h9 => h9) rfl dX6_adds_57 ?_
          refine lv_bipush (v := 12) hx hb dX6_adds_60 (by decide) ?_
          refine lv_iload_n hx hb dX6_adds_62 rfl (lv_at hl 2 rfl) ?_
          refine lv_imul hx hb dX6_adds_63 ?_
          refine lv_iload hx hb dX6_adds_64 (lv_at hl 5 rfl) ?_
          refine lv_iadd hx hb dX6_adds_66 ?_
          obtain ⟨hg67, hf⟩ := gd_s hf
          refine va_iald (f := (gR s37.2.2 4)) hx hb hE.1 hP 5 0 rfl rfl hg67 dX6_adds_67 ?_
          refine lv_iadd hx hb dX6_adds_68 ?_
          refine lv_iload_n hx hb dX6_adds_69 rfl (lv_at hl 3 rfl) ?_
          refine lv_iadd hx hb dX6_adds_70 ?_
          refine lv_istore (lv' := [(6, .int ((((gR s37.2.2 4) (((12 * a1) + s37.2.1).toNatClampNeg)) + ((gR s37.2.2 4) (((12 * a2) + s37.2.1).toNatClampNeg))) + s37.1)), (0, .ref (q 0)), (1, .int a1), (2, .int a2), (3, .int s37.1), (4, .int ((gR u 5) (a2.toNatClampNeg))), (5, .int s37.2.1)]) hx hb dX6_adds_71 hl (by decide) rfl (fun ls hl => ?_)
          refine lv_aload_n hx hb dX6_adds_73 rfl (lv_at hl 1 rfl) ?_
          refine va_get (ci := 6) (v := .ref (q 5)) (C := RX6) (T := TX6) (N := 26) hx hb hts inlX6 hown hE.1 hP 0 rfl rfl 5 (by decide) (hts _ wB84) (fun _ h9 => h9) rfl dX6_adds_74 ?_
          refine lv_bipush (v := 12) hx hb dX6_adds_77 (by decide) ?_
          refine lv_iload_n hx hb dX6_adds_79 rfl (lv_at hl 2 rfl) ?_
          refine lv_imul hx hb dX6_adds_80 ?_
          refine lv_iload hx hb dX6_adds_81 (lv_at hl 6 rfl) ?_
          refine lv_iadd hx hb dX6_adds_83 ?_
          refine lv_iload hx hb dX6_adds_84 (lv_at hl 0 rfl) ?_
          refine lv_ldc (v := 1073741823) hx hb hown (hts _ wB605) dX6_adds_86 ?_
          refine lv_iand hx hb dX6_adds_88 ?_
          obtain ⟨hg89, hf⟩ := gd_s hf
          refine va_iast (f := (gR s37.2.2 4)) hx hb hE.1 hP hD hS 5 0 rfl rfl hg89 dX6_adds_89 (fun H locs hP hD hS => ?_)
          have hP : va_P D vwCl (WM q cy (sR s37.2.2 4 (upd (gR s37.2.2 4) (((12 * a1) + s37.2.1).toNatClampNeg) (((((gR s37.2.2 4) (((12 * a1) + s37.2.1).toNatClampNeg)) + ((gR s37.2.2 4) (((12 * a2) + s37.2.1).toNatClampNeg))) + s37.1) &&& 1073741823))) ++ rest) H := hP
          have hD : va_D A (WM q cy (sR s37.2.2 4 (upd (gR s37.2.2 4) (((12 * a1) + s37.2.1).toNatClampNeg) (((((gR s37.2.2 4) (((12 * a1) + s37.2.1).toNatClampNeg)) + ((gR s37.2.2 4) (((12 * a2) + s37.2.1).toNatClampNeg))) + s37.1) &&& 1073741823))) ++ rest) := hD
          refine lv_iload hx hb dX6_adds_90 (lv_at hl 0 rfl) ?_
          refine lv_bipush (v := 30) hx hb dX6_adds_92 (by decide) ?_
          refine lv_iushr (v := (((((gR s37.2.2 4) (((12 * a1) + s37.2.1).toNatClampNeg)) + ((gR s37.2.2 4) (((12 * a2) + s37.2.1).toNatClampNeg))) + s37.1).toUInt32 >>> ((30 : Int32).toUInt32 &&& Int32.toUInt32 31)).toInt32) hx hb dX6_adds_94 rfl ?_
          refine lv_istore_n (lv' := [(3, .int ((((((gR s37.2.2 4) (((12 * a1) + s37.2.1).toNatClampNeg)) + ((gR s37.2.2 4) (((12 * a2) + s37.2.1).toNatClampNeg))) + s37.1).toUInt32 >>> ((30 : Int32).toUInt32 &&& Int32.toUInt32 31)).toInt32)), (6, .int ((((gR s37.2.2 4) (((12 * a1) + s37.2.1).toNatClampNeg)) + ((gR s37.2.2 4) (((12 * a2) + s37.2.1).toNatClampNeg))) + s37.1)), (0, .ref (q 0)), (1, .int a1), (2, .int a2), (4, .int ((gR u 5) (a2.toNatClampNeg))), (5, .int s37.2.1)]) hx hb dX6_adds_95 rfl hl (by decide) rfl (fun ls hl => ?_)
          refine lv_iinc (v := (s37.2.1 + 1)) (lv' := [(5, .int (s37.2.1 + 1)), (3, .int ((((((gR s37.2.2 4) (((12 * a1) + s37.2.1).toNatClampNeg)) + ((gR s37.2.2 4) (((12 * a2) + s37.2.1).toNatClampNeg))) + s37.1).toUInt32 >>> ((30 : Int32).toUInt32 &&& Int32.toUInt32 31)).toInt32)), (6, .int ((((gR s37.2.2 4) (((12 * a1) + s37.2.1).toNatClampNeg)) + ((gR s37.2.2 4) (((12 * a2) + s37.2.1).toNatClampNeg))) + s37.1)), (0, .ref (q 0)), (1, .int a1), (2, .int a2), (4, .int ((gR u 5) (a2.toNatClampNeg)))]) hx hb dX6_adds_96 hl (k := 6) rfl (by rfl) (by decide) rfl (fun ls hl => ?_)
          refine lv_goto (tgt := 37) hx hb dX6_adds_99 (by decide) ?_
          obtain rfl := o_ret hf
          exact ih37 _ _ (lpK_r h37z) _ _ _ hP hD hS (lv_sub hl [3, 4, 5, 1, 6, 0] rfl) K37_0
    obtain ⟨e37, h37q, hf⟩ := o_bs hf
    obtain ⟨n37v, h37q⟩ := lpF_ex h37q
    refine L37 n37v _ e37 h37q _ _ _ hP hD hS (lv_sub hl [3, 4, 5, 2, 1, 0] rfl) ?_
    intro H locs ls hP hD hS hl
    refine lv_aload_n hx hb dX6_adds_102 rfl (lv_at hl 0 rfl) ?_
    refine va_get (ci := 6) (v := .ref (q 5)) (C := RX6) (T := TX6) (N := 26) hx hb hts inlX6 hown hE.1 hP 0 rfl rfl 5 (by decide) (hts _ wB84) (fun _ h9 => h9) rfl dX6_adds_103 ?_
    refine lv_bipush (v := 12) hx hb dX6_adds_106 (by decide) ?_
    refine lv_iload_n hx hb dX6_adds_108 rfl (lv_at hl 1 rfl) ?_
    refine lv_imul hx hb dX6_adds_109 ?_
    refine lv_iload hx hb dX6_adds_110 (lv_at hl 3 rfl) ?_
    refine lv_iadd hx hb dX6_adds_112 ?_
    refine lv_iload_n hx hb dX6_adds_113 rfl (lv_at hl 2 rfl) ?_
    obtain ⟨hg114, hf⟩ := gd_s hf
    refine va_iast (f := (gR e37.2 4)) hx hb hE.1 hP hD hS 5 0 rfl rfl hg114 dX6_adds_114 (fun H locs hP hD hS => ?_)
    have hP : va_P D vwCl (WM q cy (sR e37.2 4 (upd (gR e37.2 4) (((12 * a1) + ((gR u 5) (a2.toNatClampNeg))).toNatClampNeg) e37.1)) ++ rest) H := hP
    have hD : va_D A (WM q cy (sR e37.2 4 (upd (gR e37.2 4) (((12 * a1) + ((gR u 5) (a2.toNatClampNeg))).toNatClampNeg) e37.1)) ++ rest) := hD
    refine lv_aload_n hx hb dX6_adds_115 rfl (lv_at hl 0 rfl) ?_
    refine va_get (ci := 6) (v := .ref (q 6)) (C := RX6) (T := TX6) (N := 26) hx hb hts inlX6 hown hE.1 hP 0 rfl rfl 6 (by decide) (hts _ wB85) (fun _ h9 => h9) rfl dX6_adds_116 ?_
    refine lv_iload_n hx hb dX6_adds_119 rfl (lv_at hl 1 rfl) ?_
    refine lv_iload hx hb dX6_adds_120 (lv_at hl 3 rfl) ?_
    refine lv_iload_n hx hb dX6_adds_122 rfl (lv_at hl 2 rfl) ?_
    sorry
  · sorry
set_option maxRecDepth 100000 in
set_option maxHeartbeats 4000000 in
theorem zX6_adds_v20 (l : Launch) (D : va_G) (cy : Nat → ClassId) (sa : Nat → Nat) (q : Nat → Nat) (rest : va_W) (sz : Nat) (u : KS) (a1 : Int32) (a2 : Int32) (res : KS) (hf : mX6_adds u a1 a2 = some res) : kMv l yX6_adds (wsK yX6_adds cX6_adds 7 none) rmX6_adds D cy sa (WM q cy u ++ rest) sz [.ref (q 0), .int a1, .int a2] (WM q cy res ++ rest) 0 0 := by
  refine kM_of (Qc := fun A => kQv D A (WM q cy res ++ rest)) (cc := cX6_adds) (maxL := 7) (ret := none) (by decide) (Nat.le_of_ble_eq_true rfl) ?_
  intro p e s m below meth c A hx hb hml hr hts hown hlocks hin hA hP hD hS hE hsz ls hl
  have hown : s.vm.findClass RX6 = some m.cls := hown
  obtain ⟨H, hH0⟩ : ∃ H, H = s.heap := ⟨_, rfl⟩
  obtain ⟨locs, hlocs0⟩ : ∃ locs : List Loc, locs = [] := ⟨_, rfl⟩
  have hP : va_P D vwCl (WM q cy u ++ rest) H := by rw [hH0]; exact hP
  have hS : va_S A s.heap H locs := by rw [hH0, hlocs0]; exact hS
  have hl : lv_has ls 7 [(0, .ref (q 0)), (1, .int a1), (2, .int a2)] := hl
  suffices hgoal : W p l e rmX6_adds s m ([.ref (q 0), .int a1, .int a2] : List Value).toArray below meth c H locs 0 0 (MQ below (kQv D A (WM q cy res ++ rest)) ([.ref (q 0), .int a1, .int a2] : List Value).toArray s 0 0 A) (F0 m 0 ls []) by rw [hH0, hlocs0] at hgoal; exact hgoal
  clear hH0 hlocs0
  unfold mX6_adds at hf
  refine lv_iconst (v := 0) hx hb dX6_adds_0 (by decide) ?_
  refine lv_istore_n (lv' := [(3, .int 0), (0, .ref (q 0)), (1, .int a1), (2, .int a2)]) hx hb dX6_adds_1 rfl hl (by decide) rfl (fun ls hl => ?_)
  refine lv_aload_n hx hb dX6_adds_2 rfl (lv_at hl 1 rfl) ?_
  refine va_get (ci := 6) (v := .ref (q 6)) (C := RX6) (T := TX6) (N := 26) hx hb hts inlX6 hown hE.1 hP 0 rfl rfl 6 (by decide) (hts _ wB85) (fun _ h9 => h9) rfl dX6_adds_3 ?_
  refine lv_iload_n hx hb dX6_adds_6 rfl (lv_at hl 2 rfl) ?_
  obtain ⟨hg7, hf⟩ := gd_s hf
  refine va_iald (f := (gR u 5)) hx hb hE.1 hP 6 0 rfl rfl hg7 dX6_adds_7 ?_
  refine lv_aload_n hx hb dX6_adds_8 rfl (lv_at hl 1 rfl) ?_
  refine va_get (ci := 6) (v := .ref (q 6)) (C := RX6) (T := TX6) (N := 26) hx hb hts inlX6 hown hE.1 hP 0 rfl rfl 6 (by decide) (hts _ wB85) (fun _ h9 => h9) rfl dX6_adds_9 ?_
  refine lv_iload_n hx hb dX6_adds_12 rfl (lv_at hl 3 rfl) ?_
  obtain ⟨hg13, hf⟩ := gd_s hf
  refine va_iald (f := (gR u 5)) hx hb hE.1 hP 6 0 rfl rfl hg13 dX6_adds_13 ?_
  refine lv_icmp_le (tgt := 26) hx hb dX6_adds_14 (by decide) (fun c14 => ?_) (fun c14 => ?_)
  · have hf := o_ip c14 hf
    refine lv_aload_n hx hb dX6_adds_26 rfl (lv_at hl 1 rfl) ?_
    refine va_get (ci := 6) (v := .ref (q 6)) (C := RX6) (T := TX6) (N := 26) hx hb hts inlX6 hown hE.1 hP 0 rfl rfl 6 (by decide) (hts _ wB85) (fun _ h9 => h9) rfl dX6_adds_27 ?_
    refine lv_iload_n hx hb dX6_adds_30 rfl (lv_at hl 3 rfl) ?_
    obtain ⟨hg31, hf⟩ := gd_s hf
    refine va_iald (f := (gR u 5)) hx hb hE.1 hP 6 0 rfl rfl hg31 dX6_adds_31 ?_
    refine lv_istore (lv' := [(4, .int ((gR u 5) (a2.toNatClampNeg))), (3, .int 0), (0, .ref (q 0)), (1, .int a1), (2, .int a2)]) hx hb dX6_adds_32 hl (by decide) rfl (fun ls hl => ?_)
    refine lv_iconst (v := 0) hx hb dX6_adds_34 (by decide) ?_
    refine lv_istore (lv' := [(5, .int 0), (4, .int ((gR u 5) (a2.toNatClampNeg))), (3, .int 0), (0, .ref (q 0)), (1, .int a1), (2, .int a2)]) hx hb dX6_adds_35 hl (by decide) rfl (fun ls hl => ?_)
    have L37 : ∀ (n37v : Nat) (s37 : Int32 × Int32 × KS) (e37 : (Int32 × KS)), lpO (mX6_adds_s37 a1 a2 ((gR u 5) (a2.toNatClampNeg))) n37v s37 = some e37 → ∀ (H : Heap) (locs : List Loc) (ls : Array Slot), va_P D vwCl (WM q cy s37.2.2 ++ rest) H → va_D A (WM q cy s37.2.2 ++ rest) → va_S A s.heap H locs → lv_has ls 7 [(0, .ref (q 0)), (1, .int a1), (2, .int a2), (3, .int s37.1), (4, .int ((gR u 5) (a2.toNatClampNeg))), (5, .int s37.2.1)] → (∀ (H : Heap) (locs : List Loc) (ls : Array Slot), va_P D vwCl (WM q cy e37.2 ++ rest) H → va_D A (WM q cy e37.2 ++ rest) → va_S A s.heap H locs → lv_has ls 7 [(0, .ref (q 0)), (1, .int a1), (3, .int e37.1), (4, .int ((gR u 5) (a2.toNatClampNeg)))] → W p l e rmX6_adds s m ([.ref (q 0), .int a1, .int a2] : List Value).toArray below meth c H locs 0 0 (MQ below (kQv D A (WM q cy res ++ rest)) ([.ref (q 0), .int a1, .int a2] : List Value).toArray s 0 0 A) (F0 m 102 ls [])) → W p l e rmX6_adds s m ([.ref (q 0), .int a1, .int a2] : List Value).toArray below meth c H locs 0 0 (MQ below (kQv D A (WM q cy res ++ rest)) ([.ref (q 0), .int a1, .int a2] : List Value).toArray s 0 0 A) (F0 m 37 ls []) := by
      intro n37v
      induction n37v with
      | zero => intro s37 e37 h; exact (lpO_z h).elim
      | succ n37v ih37 =>
        intro s37 e37 h37z H locs ls hP hD hS hl K37_0
        obtain ⟨x37, hf, h37z⟩ := lpO_s h37z
        unfold mX6_adds_s37 at hf
        refine lv_iload hx hb dX6_adds_37 (lv_at hl 5 rfl) ?_
        refine lv_iload hx hb dX6_adds_39 (lv_at hl 4 rfl) ?_
        refine lv_icmp_ge (tgt := 102) hx hb dX6_adds_41 (by decide) (fun c41 => ?_) (fun c41 => ?_)
        · have hf := o_ip c41 hf
          obtain rfl := o_ret hf
          obtain rfl := lpK_l h37z
          exact K37_0 _ _ _ hP hD hS (lv_sub hl [0, 1, 3, 4] rfl)
        · have hf := o_in c41 hf
          refine lv_aload_n hx hb dX6_adds_44 rfl (lv_at hl 0 rfl) ?_
          refine va_get (ci := 6) (v := .ref (q 5)) (C := RX6) (T := TX6) (N := 26) hx hb hts inlX6 hown hE.1 hP 0 rfl rfl 5 (by decide) (hts _ wB84) (fun _ h9 => h9) rfl dX6_adds_45 ?_
          refine lv_bipush (v := 12) hx hb dX6_adds_48 (by decide) ?_
          refine lv_iload_n hx hb dX6_adds_50 rfl (lv_at hl 1 rfl) ?_
          refine lv_imul hx hb dX6_adds_51 ?_
          refine lv_iload hx hb dX6_adds_52 (lv_at hl 5 rfl) ?_
          refine lv_iadd hx hb dX6_adds_54 ?_
          obtain ⟨hg55, hf⟩ := gd_s hf
          refine va_iald (f := (gR s37.2.2 4)) hx hb hE.1 hP 5 0 rfl rfl hg55 dX6_adds_55 ?_
          refine lv_aload_n hx hb dX6_adds_56 rfl (lv_at hl 0 rfl) ?_
          refine va_get (ci := 6) (v := .ref (q 5)) (C := RX6) (T := TX6) (N := 26) hx hb hts inlX6 hown hE.1 hP 0 rfl rfl 5 (by decide) (hts _ wB84) (fun _ h9 => h9) rfl dX6_adds_57 ?_
          refine lv_bipush (v := 12) hx hb dX6_adds_60 (by decide) ?_
          refine lv_iload_n hx hb dX6_adds_62 rfl (lv_at hl 2 rfl) ?_
          refine lv_imul hx hb dX6_adds_63 ?_
          refine lv_iload hx hb dX6_adds_64 (lv_at hl 5 rfl) ?_
          refine lv_iadd hx hb dX6_adds_66 ?_
          obtain ⟨hg67, hf⟩ := gd_s hf
          refine va_iald (f := (gR s37.2.2 4)) hx hb hE.1 hP 5 0 rfl rfl hg67 dX6_adds_67 ?_
          refine lv_iadd hx hb dX6_adds_68 ?_
          refine lv_iload_n hx hb dX6_adds_69 rfl (lv_at hl 3 rfl) ?_
          refine lv_iadd hx hb dX6_adds_70 ?_
          refine lv_istore (lv' := [(6, .int ((((gR s37.2.2 4) (((12 * a1) + s37.2.1).toNatClampNeg)) + ((gR s37.2.2 4) (((12 * a2) + s37.2.1).toNatClampNeg))) + s37.1)), (0, .ref (q 0)), (1, .int a1), (2, .int a2), (3, .int s37.1), (4, .int ((gR u 5) (a2.toNatClampNeg))), (5, .int s37.2.1)]) hx hb dX6_adds_71 hl (by decide) rfl (fun ls hl => ?_)
          refine lv_aload_n hx hb dX6_adds_73 rfl (lv_at hl 1 rfl) ?_
          refine va_get (ci := 6) (v := .ref (q 5)) (C := RX6) (T := TX6) (N := 26) hx hb hts inlX6 hown hE.1 hP 0 rfl rfl 5 (by decide) (hts _ wB84) (fun _ h9 => h9) rfl dX6_adds_74 ?_
          refine lv_bipush (v := 12) hx hb dX6_adds_77 (by decide) ?_
          refine lv_iload_n hx hb dX6_adds_79 rfl (lv_at hl 2 rfl) ?_
          refine lv_imul hx hb dX6_adds_80 ?_
          refine lv_iload hx hb dX6_adds_81 (lv_at hl 6 rfl) ?_
          refine lv_iadd hx hb dX6_adds_83 ?_
          refine lv_iload hx hb dX6_adds_84 (lv_at hl 0 rfl) ?_
          refine lv_ldc (v := 1073741823) hx hb hown (hts _ wB605) dX6_adds_86 ?_
          refine lv_iand hx hb dX6_adds_88 ?_
          obtain ⟨hg89, hf⟩ := gd_s hf
          refine va_iast (f := (gR s37.2.2 4)) hx hb hE.1 hP hD hS 5 0 rfl rfl hg89 dX6_adds_89 (fun H locs hP hD hS => ?_)
          have hP : va_P D vwCl (WM q cy (sR s37.2.2 4 (upd (gR s37.2.2 4) (((12 * a1) + s37.2.1).toNatClampNeg) (((((gR s37.2.2 4) (((12 * a1) + s37.2.1).toNatClampNeg)) + ((gR s37.2.2 4) (((12 * a2) + s37.2.1).toNatClampNeg))) + s37.1) &&& 1073741823))) ++ rest) H := hP
          have hD : va_D A (WM q cy (sR s37.2.2 4 (upd (gR s37.2.2 4) (((12 * a1) + s37.2.1).toNatClampNeg) (((((gR s37.2.2 4) (((12 * a1) + s37.2.1).toNatClampNeg)) + ((gR s37.2.2 4) (((12 * a2) + s37.2.1).toNatClampNeg))) + s37.1) &&& 1073741823))) ++ rest) := hD
          refine lv_iload hx hb dX6_adds_90 (lv_at hl 0 rfl) ?_
          refine lv_bipush (v := 30) hx hb dX6_adds_92 (by decide) ?_
          refine lv_iushr (v := (((((gR s37.2.2 4) (((12 * a1) + s37.2.1).toNatClampNeg)) + ((gR s37.2.2 4) (((12 * a2) + s37.2.1).toNatClampNeg))) + s37.1).toUInt32 >>> ((30 : Int32).toUInt32 &&& Int32.toUInt32 31)).toInt32) hx hb dX6_adds_94 rfl ?_
          refine lv_istore_n (lv' := [(3, .int ((((((gR s37.2.2 4) (((12 * a1) + s37.2.1).toNatClampNeg)) + ((gR s37.2.2 4) (((12 * a2) + s37.2.1).toNatClampNeg))) + s37.1).toUInt32 >>> ((30 : Int32).toUInt32 &&& Int32.toUInt32 31)).toInt32)), (6, .int ((((gR s37.2.2 4) (((12 * a1) + s37.2.1).toNatClampNeg)) + ((gR s37.2.2 4) (((12 * a2) + s37.2.1).toNatClampNeg))) + s37.1)), (0, .ref (q 0)), (1, .int a1), (2, .int a2), (4, .int ((gR u 5) (a2.toNatClampNeg))), (5, .int s37.2.1)]) hx hb dX6_adds_95 rfl hl (by decide) rfl (fun ls hl => ?_)
          refine lv_iinc (v := (s37.2.1 + 1)) (lv' := [(5, .int (s37.2.1 + 1)), (3, .int ((((((gR s37.2.2 4) (((12 * a1) + s37.2.1).toNatClampNeg)) + ((gR s37.2.2 4) (((12 * a2) + s37.2.1).toNatClampNeg))) + s37.1).toUInt32 >>> ((30 : Int32).toUInt32 &&& Int32.toUInt32 31)).toInt32)), (6, .int ((((gR s37.2.2 4) (((12 * a1) + s37.2.1).toNatClampNeg)) + ((gR s37.2.2 4) (((12 * a2) + s37.2.1).toNatClampNeg))) + s37.1)), (0, .ref (q 0)), (1, .int a1), (2, .int a2), (4, .int ((gR u 5) (a2.toNatClampNeg)))]) hx hb dX6_adds_96 hl (k := 6) rfl (by rfl) (by decide) rfl (fun ls hl => ?_)
          refine lv_goto (tgt := 37) hx hb dX6_adds_99 (by decide) ?_
          obtain rfl := o_ret hf
          exact ih37 _ _ (lpK_r h37z) _ _ _ hP hD hS (lv_sub hl [3, 4, 5, 1, 6, 0] rfl) K37_0
    obtain ⟨e37, h37q, hf⟩ := o_bs hf
    obtain ⟨n37v, h37q⟩ := lpF_ex h37q
    refine L37 n37v _ e37 h37q _ _ _ hP hD hS (lv_sub hl [3, 4, 5, 2, 1, 0] rfl) ?_
    intro H locs ls hP hD hS hl
    refine lv_aload_n hx hb dX6_adds_102 rfl (lv_at hl 0 rfl) ?_
    refine va_get (ci := 6) (v := .ref (q 5)) (C := RX6) (T := TX6) (N := 26) hx hb hts inlX6 hown hE.1 hP 0 rfl rfl 5 (by decide) (hts _ wB84) (fun _ h9 => h9) rfl dX6_adds_103 ?_
    refine lv_bipush (v := 12) hx hb dX6_adds_106 (by decide) ?_
    refine lv_iload_n hx hb dX6_adds_108 rfl (lv_at hl 1 rfl) ?_
    refine lv_imul hx hb dX6_adds_109 ?_
    refine lv_iload hx hb dX6_adds_110 (lv_at hl 3 rfl) ?_
    refine lv_iadd hx hb dX6_adds_112 ?_
    refine lv_iload_n hx hb dX6_adds_113 rfl (lv_at hl 2 rfl) ?_
    obtain ⟨hg114, hf⟩ := gd_s hf
    refine va_iast (f := (gR e37.2 4)) hx hb hE.1 hP hD hS 5 0 rfl rfl hg114 dX6_adds_114 (fun H locs hP hD hS => ?_)
    have hP : va_P D vwCl (WM q cy (sR e37.2 4 (upd (gR e37.2 4) (((12 * a1) + ((gR u 5) (a2.toNatClampNeg))).toNatClampNeg) e37.1)) ++ rest) H := hP
    have hD : va_D A (WM q cy (sR e37.2 4 (upd (gR e37.2 4) (((12 * a1) + ((gR u 5) (a2.toNatClampNeg))).toNatClampNeg) e37.1)) ++ rest) := hD
    refine lv_aload_n hx hb dX6_adds_115 rfl (lv_at hl 0 rfl) ?_
    refine va_get (ci := 6) (v := .ref (q 6)) (C := RX6) (T := TX6) (N := 26) hx hb hts inlX6 hown hE.1 hP 0 rfl rfl 6 (by decide) (hts _ wB85) (fun _ h9 => h9) rfl dX6_adds_116 ?_
    refine lv_iload_n hx hb dX6_adds_119 rfl (lv_at hl 1 rfl) ?_
    refine lv_iload hx hb dX6_adds_120 (lv_at hl 3 rfl) ?_
    refine lv_iload_n hx hb dX6_adds_122 rfl (lv_at hl 2 rfl) ?_
    refine lv_iadd hx hb dX6_adds_123 ?_
    sorry
  · sorry
set_option maxRecDepth 100000 in
set_option maxHeartbeats 4000000 in
theorem zX6_adds_v21 (l : Launch) (D : va_G) (cy : Nat → ClassId) (sa : Nat → Nat) (q : Nat → Nat) (rest : va_W) (sz : Nat) (u : KS) (a1 : Int32) (a2 : Int32) (res : KS) (hf : mX6_adds u a1 a2 = some res) : kMv l yX6_adds (wsK yX6_adds cX6_adds 7 none) rmX6_adds D cy sa (WM q cy u ++ rest) sz [.ref (q 0), .int a1, .int a2] (WM q cy res ++ rest) 0 0 := by
  refine kM_of (Qc := fun A => kQv D A (WM q cy res ++ rest)) (cc := cX6_adds) (maxL := 7) (ret := none) (by decide) (Nat.le_of_ble_eq_true rfl) ?_
  intro p e s m below meth c A hx hb hml hr hts hown hlocks hin hA hP hD hS hE hsz ls hl
  have hown : s.vm.findClass RX6 = some m.cls := hown
  obtain ⟨H, hH0⟩ : ∃ H, H = s.heap := ⟨_, rfl⟩
  obtain ⟨locs, hlocs0⟩ : ∃ locs : List Loc, locs = [] := ⟨_, rfl⟩
  have hP : va_P D vwCl (WM q cy u ++ rest) H := by rw [hH0]; exact hP
  have hS : va_S A s.heap H locs := by rw [hH0, hlocs0]; exact hS
  have hl : lv_has ls 7 [(0, .ref (q 0)), (1, .int a1), (2, .int a2)] := hl
  suffices hgoal : W p l e rmX6_adds s m ([.ref (q 0), .int a1, .int a2] : List Value).toArray below meth c H locs 0 0 (MQ below (kQv D A (WM q cy res ++ rest)) ([.ref (q 0), .int a1, .int a2] : List Value).toArray s 0 0 A) (F0 m 0 ls []) by rw [hH0, hlocs0] at hgoal; exact hgoal
  clear hH0 hlocs0
  unfold mX6_adds at hf
  refine lv_iconst (v := 0) hx hb dX6_adds_0 (by decide) ?_
  refine lv_istore_n (lv' := [(3, .int 0), (0, .ref (q 0)), (1, .int a1), (2, .int a2)]) hx hb dX6_adds_1 rfl hl (by decide) rfl (fun ls hl => ?_)
  refine lv_aload_n hx hb dX6_adds_2 rfl (lv_at hl 1 rfl) ?_
  refine va_get (ci := 6) (v := .ref (q 6)) (C := RX6) (T := TX6) (N := 26) hx hb hts inlX6 hown hE.1 hP 0 rfl rfl 6 (by decide) (hts _ wB85) (fun _ h9 => h9) rfl dX6_adds_3 ?_
  refine lv_iload_n hx hb dX6_adds_6 rfl (lv_at hl 2 rfl) ?_
  obtain ⟨hg7, hf⟩ := gd_s hf
  refine va_iald (f := (gR u 5)) hx hb hE.1 hP 6 0 rfl rfl hg7 dX6_adds_7 ?_
  refine lv_aload_n hx hb dX6_adds_8 rfl (lv_at hl 1 rfl) ?_
  refine va_get (ci := 6) (v := .ref (q 6)) (C := RX6) (T := TX6) (N := 26) hx hb hts inlX6 hown hE.1 hP 0 rfl rfl 6 (by decide) (hts _ wB85) (fun _ h9 => h9) rfl dX6_adds_9 ?_
  refine lv_iload_n hx hb dX6_adds_12 rfl (lv_at hl 3 rfl) ?_
  obtain ⟨hg13, hf⟩ := gd_s hf
  refine va_iald (f := (gR u 5)) hx hb hE.1 hP 6 0 rfl rfl hg13 dX6_adds_13 ?_
  refine lv_icmp_le (tgt := 26) hx hb dX6_adds_14 (by decide) (fun c14 => ?_) (fun c14 => ?_)
  · have hf := o_ip c14 hf
    refine lv_aload_n hx hb dX6_adds_26 rfl (lv_at hl 1 rfl) ?_
    refine va_get (ci := 6) (v := .ref (q 6)) (C := RX6) (T := TX6) (N := 26) hx hb hts inlX6 hown hE.1 hP 0 rfl rfl 6 (by decide) (hts _ wB85) (fun _ h9 => h9) rfl dX6_adds_27 ?_
    refine lv_iload_n hx hb dX6_adds_30 rfl (lv_at hl 3 rfl) ?_
    obtain ⟨hg31, hf⟩ := gd_s hf
    refine va_iald (f := (gR u 5)) hx hb hE.1 hP 6 0 rfl rfl hg31 dX6_adds_31 ?_
    refine lv_istore (lv' := [(4, .int ((gR u 5) (a2.toNatClampNeg))), (3, .int 0), (0, .ref (q 0)), (1, .int a1), (2, .int a2)]) hx hb dX6_adds_32 hl (by decide) rfl (fun ls hl => ?_)
    refine lv_iconst (v := 0) hx hb dX6_adds_34 (by decide) ?_
    refine lv_istore (lv' := [(5, .int 0), (4, .int ((gR u 5) (a2.toNatClampNeg))), (3, .int 0), (0, .ref (q 0)), (1, .int a1), (2, .int a2)]) hx hb dX6_adds_35 hl (by decide) rfl (fun ls hl => ?_)
    have L37 : ∀ (n37v : Nat) (s37 : Int32 × Int32 × KS) (e37 : (Int32 × KS)), lpO (mX6_adds_s37 a1 a2 ((gR u 5) (a2.toNatClampNeg))) n37v s37 = some e37 → ∀ (H : Heap) (locs : List Loc) (ls : Array Slot), va_P D vwCl (WM q cy s37.2.2 ++ rest) H → va_D A (WM q cy s37.2.2 ++ rest) → va_S A s.heap H locs → lv_has ls 7 [(0, .ref (q 0)), (1, .int a1), (2, .int a2), (3, .int s37.1), (4, .int ((gR u 5) (a2.toNatClampNeg))), (5, .int s37.2.1)] → (∀ (H : Heap) (locs : List Loc) (ls : Array Slot), va_P D vwCl (WM q cy e37.2 ++ rest) H → va_D A (WM q cy e37.2 ++ rest) → va_S A s.heap H locs → lv_has ls 7 [(0, .ref (q 0)), (1, .int a1), (3, .int e37.1), (4, .int ((gR u 5) (a2.toNatClampNeg)))] → W p l e rmX6_adds s m ([.ref (q 0), .int a1, .int a2] : List Value).toArray below meth c H locs 0 0 (MQ below (kQv D A (WM q cy res ++ rest)) ([.ref (q 0), .int a1, .int a2] : List Value).toArray s 0 0 A) (F0 m 102 ls [])) → W p l e rmX6_adds s m ([.ref (q 0), .int a1, .int a2] : List Value).toArray below meth c H locs 0 0 (MQ below (kQv D A (WM q cy res ++ rest)) ([.ref (q 0), .int a1, .int a2] : List Value).toArray s 0 0 A) (F0 m 37 ls []) := by
      intro n37v
      induction n37v with
      | zero => intro s37 e37 h; exact (lpO_z h).elim
      | succ n37v ih37 =>
        intro s37 e37 h37z H locs ls hP hD hS hl K37_0
        obtain ⟨x37, hf, h37z⟩ := lpO_s h37z
        unfold mX6_adds_s37 at hf
        refine lv_iload hx hb dX6_adds_37 (lv_at hl 5 rfl) ?_
        refine lv_iload hx hb dX6_adds_39 (lv_at hl 4 rfl) ?_
        refine lv_icmp_ge (tgt := 102) hx hb dX6_adds_41 (by decide) (fun c41 => ?_) (fun c41 => ?_)
        · have hf := o_ip c41 hf
          obtain rfl := o_ret hf
          obtain rfl := lpK_l h37z
          exact K37_0 _ _ _ hP hD hS (lv_sub hl [0, 1, 3, 4] rfl)
        · have hf := o_in c41 hf
          refine lv_aload_n hx hb dX6_adds_44 rfl (lv_at hl 0 rfl) ?_
          refine va_get (ci := 6) (v := .ref (q 5)) (C := RX6) (T := TX6) (N := 26) hx hb hts inlX6 hown hE.1 hP 0 rfl rfl 5 (by decide) (hts _ wB84) (fun _ h9 => h9) rfl dX6_adds_45 ?_
          refine lv_bipush (v := 12) hx hb dX6_adds_48 (by decide) ?_
          refine lv_iload_n hx hb dX6_adds_50 rfl (lv_at hl 1 rfl) ?_
          refine lv_imul hx hb dX6_adds_51 ?_
          refine lv_iload hx hb dX6_adds_52 (lv_at hl 5 rfl) ?_
          refine lv_iadd hx hb dX6_adds_54 ?_
          obtain ⟨hg55, hf⟩ := gd_s hf
          refine va_iald (f := (gR s37.2.2 4)) hx hb hE.1 hP 5 0 rfl rfl hg55 dX6_adds_55 ?_
          refine lv_aload_n hx hb dX6_adds_56 rfl (lv_at hl 0 rfl) ?_
          refine va_get (ci := 6) (v := .ref (q 5)) (C := RX6) (T := TX6) (N := 26) hx hb hts inlX6 hown hE.1 hP 0 rfl rfl 5 (by decide) (hts _ wB84) (fun _ h9 => h9) rfl dX6_adds_57 ?_
          refine lv_bipush (v := 12) hx hb dX6_adds_60 (by decide) ?_
          refine lv_iload_n hx hb dX6_adds_62 rfl (lv_at hl 2 rfl) ?_
          refine lv_imul hx hb dX6_adds_63 ?_
          refine lv_iload hx hb dX6_adds_64 (lv_at hl 5 rfl) ?_
          refine lv_iadd hx hb dX6_adds_66 ?_
          obtain ⟨hg67, hf⟩ := gd_s hf
          refine va_iald (f := (gR s37.2.2 4)) hx hb hE.1 hP 5 0 rfl rfl hg67 dX6_adds_67 ?_
          refine lv_iadd hx hb dX6_adds_68 ?_
          refine lv_iload_n hx hb dX6_adds_69 rfl (lv_at hl 3 rfl) ?_
          refine lv_iadd hx hb dX6_adds_70 ?_
          refine lv_istore (lv' := [(6, .int ((((gR s37.2.2 4) (((12 * a1) + s37.2.1).toNatClampNeg)) + ((gR s37.2.2 4) (((12 * a2) + s37.2.1).toNatClampNeg))) + s37.1)), (0, .ref (q 0)), (1, .int a1), (2, .int a2), (3, .int s37.1), (4, .int ((gR u 5) (a2.toNatClampNeg))), (5, .int s37.2.1)]) hx hb dX6_adds_71 hl (by decide) rfl (fun ls hl => ?_)
          refine lv_aload_n hx hb dX6_adds_73 rfl (lv_at hl 1 rfl) ?_
          refine va_get (ci := 6) (v := .ref (q 5)) (C := RX6) (T := TX6) (N := 26) hx hb hts inlX6 hown hE.1 hP 0 rfl rfl 5 (by decide) (hts _ wB84) (fun _ h9 => h9) rfl dX6_adds_74 ?_
          refine lv_bipush (v := 12) hx hb dX6_adds_77 (by decide) ?_
          refine lv_iload_n hx hb dX6_adds_79 rfl (lv_at hl 2 rfl) ?_
          refine lv_imul hx hb dX6_adds_80 ?_
          refine lv_iload hx hb dX6_adds_81 (lv_at hl 6 rfl) ?_
          refine lv_iadd hx hb dX6_adds_83 ?_
          refine lv_iload hx hb dX6_adds_84 (lv_at hl 0 rfl) ?_
          refine lv_ldc (v := 1073741823) hx hb hown (hts _ wB605) dX6_adds_86 ?_
          refine lv_iand hx hb dX6_adds_88 ?_
          obtain ⟨hg89, hf⟩ := gd_s hf
          refine va_iast (f := (gR s37.2.2 4)) hx hb hE.1 hP hD hS 5 0 rfl rfl hg89 dX6_adds_89 (fun H locs hP hD hS => ?_)
          have hP : va_P D vwCl (WM q cy (sR s37.2.2 4 (upd (gR s37.2.2 4) (((12 * a1) + s37.2.1).toNatClampNeg) (((((gR s37.2.2 4) (((12 * a1) + s37.2.1).toNatClampNeg)) + ((gR s37.2.2 4) (((12 * a2) + s37.2.1).toNatClampNeg))) + s37.1) &&& 1073741823))) ++ rest) H := hP
          have hD : va_D A (WM q cy (sR s37.2.2 4 (upd (gR s37.2.2 4) (((12 * a1) + s37.2.1).toNatClampNeg) (((((gR s37.2.2 4) (((12 * a1) + s37.2.1).toNatClampNeg)) + ((gR s37.2.2 4) (((12 * a2) + s37.2.1).toNatClampNeg))) + s37.1) &&& 1073741823))) ++ rest) := hD
          refine lv_iload hx hb dX6_adds_90 (lv_at hl 0 rfl) ?_
          refine lv_bipush (v := 30) hx hb dX6_adds_92 (by decide) ?_
          refine lv_iushr (v := (((((gR s37.2.2 4) (((12 * a1) + s37.2.1).toNatClampNeg)) + ((gR s37.2.2 4) (((12 * a2) + s37.2.1).toNatClampNeg))) + s37.1).toUInt32 >>> ((30 : Int32).toUInt32 &&& Int32.toUInt32 31)).toInt32) hx hb dX6_adds_94 rfl ?_
          refine lv_istore_n (lv' := [(3, .int ((((((gR s37.2.2 4) (((12 * a1) + s37.2.1).toNatClampNeg)) + ((gR s37.2.2 4) (((12 * a2) + s37.2.1).toNatClampNeg))) + s37.1).toUInt32 >>> ((30 : Int32).toUInt32 &&& Int32.toUInt32 31)).toInt32)), (6, .int ((((gR s37.2.2 4) (((12 * a1) + s37.2.1).toNatClampNeg)) + ((gR s37.2.2 4) (((12 * a2) + s37.2.1).toNatClampNeg))) + s37.1)), (0, .ref (q 0)), (1, .int a1), (2, .int a2), (4, .int ((gR u 5) (a2.toNatClampNeg))), (5, .int s37.2.1)]) hx hb dX6_adds_95 rfl hl (by decide) rfl (fun ls hl => ?_)
          refine lv_iinc (v := (s37.2.1 + 1)) (lv' := [(5, .int (s37.2.1 + 1)), (3, .int ((((((gR s37.2.2 4) (((12 * a1) + s37.2.1).toNatClampNeg)) + ((gR s37.2.2 4) (((12 * a2) + s37.2.1).toNatClampNeg))) + s37.1).toUInt32 >>> ((30 : Int32).toUInt32 &&& Int32.toUInt32 31)).toInt32)), (6, .int ((((gR s37.2.2 4) (((12 * a1) + s37.2.1).toNatClampNeg)) + ((gR s37.2.2 4) (((12 * a2) + s37.2.1).toNatClampNeg))) + s37.1)), (0, .ref (q 0)), (1, .int a1), (2, .int a2), (4, .int ((gR u 5) (a2.toNatClampNeg)))]) hx hb dX6_adds_96 hl (k := 6) rfl (by rfl) (by decide) rfl (fun ls hl => ?_)
          refine lv_goto (tgt := 37) hx hb dX6_adds_99 (by decide) ?_
          obtain rfl := o_ret hf
          exact ih37 _ _ (lpK_r h37z) _ _ _ hP hD hS (lv_sub hl [3, 4, 5, 1, 6, 0] rfl) K37_0
    obtain ⟨e37, h37q, hf⟩ := o_bs hf
    obtain ⟨n37v, h37q⟩ := lpF_ex h37q
    refine L37 n37v _ e37 h37q _ _ _ hP hD hS (lv_sub hl [3, 4, 5, 2, 1, 0] rfl) ?_
    intro H locs ls hP hD hS hl
    refine lv_aload_n hx hb dX6_adds_102 rfl (lv_at hl 0 rfl) ?_
    refine va_get (ci := 6) (v := .ref (q 5)) (C := RX6) (T := TX6) (N := 26) hx hb hts inlX6 hown hE.1 hP 0 rfl rfl 5 (by decide) (hts _ wB84) (fun _ h9 => h9) rfl dX6_adds_103 ?_
    refine lv_bipush (v := 12) hx hb dX6_adds_106 (by decide) ?_
    refine lv_iload_n hx hb dX6_adds_108 rfl (lv_at hl 1 rfl) ?_
    refine lv_imul hx hb dX6_adds_109 ?_
    refine lv_iload hx hb dX6_adds_110 (lv_at hl 3 rfl) ?_
    refine lv_iadd hx hb dX6_adds_112 ?_
    refine lv_iload_n hx hb dX6_adds_113 rfl (lv_at hl 2 rfl) ?_
    obtain ⟨hg114, hf⟩ := gd_s hf
    refine va_iast (f := (gR e37.2 4)) hx hb hE.1 hP hD hS 5 0 rfl rfl hg114 dX6_adds_114 (fun H locs hP hD hS => ?_)
    have hP : va_P D vwCl (WM q cy (sR e37.2 4 (upd (gR e37.2 4) (((12 * a1) + ((gR u 5) (a2.toNatClampNeg))).toNatClampNeg) e37.1)) ++ rest) H := hP
    have hD : va_D A (WM q cy (sR e37.2 4 (upd (gR e37.2 4) (((12 * a1) + ((gR u 5) (a2.toNatClampNeg))).toNatClampNeg) e37.1)) ++ rest) := hD
    refine lv_aload_n hx hb dX6_adds_115 rfl (lv_at hl 0 rfl) ?_
    refine va_get (ci := 6) (v := .ref (q 6)) (C := RX6) (T := TX6) (N := 26) hx hb hts inlX6 hown hE.1 hP 0 rfl rfl 6 (by decide) (hts _ wB85) (fun _ h9 => h9) rfl dX6_adds_116 ?_
    refine lv_iload_n hx hb dX6_adds_119 rfl (lv_at hl 1 rfl) ?_
    refine lv_iload hx hb dX6_adds_120 (lv_at hl 3 rfl) ?_
    refine lv_iload_n hx hb dX6_adds_122 rfl (lv_at hl 2 rfl) ?_
    refine lv_iadd hx hb dX6_adds_123 ?_
    obtain ⟨hg124, hf⟩ := gd_s hf
    sorry
  · sorry
set_option maxRecDepth 100000 in
set_option maxHeartbeats 4000000 in
theorem zX6_adds_v22 (l : Launch) (D : va_G) (cy : Nat → ClassId) (sa : Nat → Nat) (q : Nat → Nat) (rest : va_W) (sz : Nat) (u : KS) (a1 : Int32) (a2 : Int32) (res : KS) (hf : mX6_adds u a1 a2 = some res) : kMv l yX6_adds (wsK yX6_adds cX6_adds 7 none) rmX6_adds D cy sa (WM q cy u ++ rest) sz [.ref (q 0), .int a1, .int a2] (WM q cy res ++ rest) 0 0 := by
  refine kM_of (Qc := fun A => kQv D A (WM q cy res ++ rest)) (cc := cX6_adds) (maxL := 7) (ret := none) (by decide) (Nat.le_of_ble_eq_true rfl) ?_
  intro p e s m below meth c A hx hb hml hr hts hown hlocks hin hA hP hD hS hE hsz ls hl
  have hown : s.vm.findClass RX6 = some m.cls := hown
  obtain ⟨H, hH0⟩ : ∃ H, H = s.heap := ⟨_, rfl⟩
  obtain ⟨locs, hlocs0⟩ : ∃ locs : List Loc, locs = [] := ⟨_, rfl⟩
  have hP : va_P D vwCl (WM q cy u ++ rest) H := by rw [hH0]; exact hP
  have hS : va_S A s.heap H locs := by rw [hH0, hlocs0]; exact hS
  have hl : lv_has ls 7 [(0, .ref (q 0)), (1, .int a1), (2, .int a2)] := hl
  suffices hgoal : W p l e rmX6_adds s m ([.ref (q 0), .int a1, .int a2] : List Value).toArray below meth c H locs 0 0 (MQ below (kQv D A (WM q cy res ++ rest)) ([.ref (q 0), .int a1, .int a2] : List Value).toArray s 0 0 A) (F0 m 0 ls []) by rw [hH0, hlocs0] at hgoal; exact hgoal
  clear hH0 hlocs0
  unfold mX6_adds at hf
  refine lv_iconst (v := 0) hx hb dX6_adds_0 (by decide) ?_
  refine lv_istore_n (lv' := [(3, .int 0), (0, .ref (q 0)), (1, .int a1), (2, .int a2)]) hx hb dX6_adds_1 rfl hl (by decide) rfl (fun ls hl => ?_)
  refine lv_aload_n hx hb dX6_adds_2 rfl (lv_at hl 1 rfl) ?_
  refine va_get (ci := 6) (v := .ref (q 6)) (C := RX6) (T := TX6) (N := 26) hx hb hts inlX6 hown hE.1 hP 0 rfl rfl 6 (by decide) (hts _ wB85) (fun _ h9 => h9) rfl dX6_adds_3 ?_
  refine lv_iload_n hx hb dX6_adds_6 rfl (lv_at hl 2 rfl) ?_
  obtain ⟨hg7, hf⟩ := gd_s hf
  refine va_iald (f := (gR u 5)) hx hb hE.1 hP 6 0 rfl rfl hg7 dX6_adds_7 ?_
  refine lv_aload_n hx hb dX6_adds_8 rfl (lv_at hl 1 rfl) ?_
  refine va_get (ci := 6) (v := .ref (q 6)) (C := RX6) (T := TX6) (N := 26) hx hb hts inlX6 hown hE.1 hP 0 rfl rfl 6 (by decide) (hts _ wB85) (fun _ h9 => h9) rfl dX6_adds_9 ?_
  refine lv_iload_n hx hb dX6_adds_12 rfl (lv_at hl 3 rfl) ?_
  obtain ⟨hg13, hf⟩ := gd_s hf
  refine va_iald (f := (gR u 5)) hx hb hE.1 hP 6 0 rfl rfl hg13 dX6_adds_13 ?_
  refine lv_icmp_le (tgt := 26) hx hb dX6_adds_14 (by decide) (fun c14 => ?_) (fun c14 => ?_)
  · have hf := o_ip c14 hf
    refine lv_aload_n hx hb dX6_adds_26 rfl (lv_at hl 1 rfl) ?_
    refine va_get (ci := 6) (v := .ref (q 6)) (C := RX6) (T := TX6) (N := 26) hx hb hts inlX6 hown hE.1 hP 0 rfl rfl 6 (by decide) (hts _ wB85) (fun _ h9 => h9) rfl dX6_adds_27 ?_
    refine lv_iload_n hx hb dX6_adds_30 rfl (lv_at hl 3 rfl) ?_
    obtain ⟨hg31, hf⟩ := gd_s hf
    refine va_iald (f := (gR u 5)) hx hb hE.1 hP 6 0 rfl rfl hg31 dX6_adds_31 ?_
    refine lv_istore (lv' := [(4, .int ((gR u 5) (a2.toNatClampNeg))), (3, .int 0), (0, .ref (q 0)), (1, .int a1), (2, .int a2)]) hx hb dX6_adds_32 hl (by decide) rfl (fun ls hl => ?_)
    refine lv_iconst (v := 0) hx hb dX6_adds_34 (by decide) ?_
    refine lv_istore (lv' := [(5, .int 0), (4, .int ((gR u 5) (a2.toNatClampNeg))), (3, .int 0), (0, .ref (q 0)), (1, .int a1), (2, .int a2)]) hx hb dX6_adds_35 hl (by decide) rfl (fun ls hl => ?_)
    have L37 : ∀ (n37v : Nat) (s37 : Int32 × Int32 × KS) (e37 : (Int32 × KS)), lpO (mX6_adds_s37 a1 a2 ((gR u 5) (a2.toNatClampNeg))) n37v s37 = some e37 → ∀ (H : Heap) (locs : List Loc) (ls : Array Slot), va_P D vwCl (WM q cy s37.2.2 ++ rest) H → va_D A (WM q cy s37.2.2 ++ rest) → va_S A s.heap H locs → lv_has ls 7 [(0, .ref (q 0)), (1, .int a1), (2, .int a2), (3, .int s37.1), (4, .int ((gR u 5) (a2.toNatClampNeg))), (5, .int s37.2.1)] → (∀ (H : Heap) (locs : List Loc) (ls : Array Slot), va_P D vwCl (WM q cy e37.2 ++ rest) H → va_D A (WM q cy e37.2 ++ rest) → va_S A s.heap H locs → lv_has ls 7 [(0, .ref (q 0)), (1, .int a1), (3, .int e37.1), (4, .int ((gR u 5) (a2.toNatClampNeg)))] → W p l e rmX6_adds s m ([.ref (q 0), .int a1, .int a2] : List Value).toArray below meth c H locs 0 0 (MQ below (kQv D A (WM q cy res ++ rest)) ([.ref (q 0), .int a1, .int a2] : List Value).toArray s 0 0 A) (F0 m 102 ls [])) → W p l e rmX6_adds s m ([.ref (q 0), .int a1, .int a2] : List Value).toArray below meth c H locs 0 0 (MQ below (kQv D A (WM q cy res ++ rest)) ([.ref (q 0), .int a1, .int a2] : List Value).toArray s 0 0 A) (F0 m 37 ls []) := by
      intro n37v
      induction n37v with
      | zero => intro s37 e37 h; exact (lpO_z h).elim
      | succ n37v ih37 =>
        intro s37 e37 h37z H locs ls hP hD hS hl K37_0
        obtain ⟨x37, hf, h37z⟩ := lpO_s h37z
        unfold mX6_adds_s37 at hf
        refine lv_iload hx hb dX6_adds_37 (lv_at hl 5 rfl) ?_
        refine lv_iload hx hb dX6_adds_39 (lv_at hl 4 rfl) ?_
        refine lv_icmp_ge (tgt := 102) hx hb dX6_adds_41 (by decide) (fun c41 => ?_) (fun c41 => ?_)
        · have hf := o_ip c41 hf
          obtain rfl := o_ret hf
          obtain rfl := lpK_l h37z
          exact K37_0 _ _ _ hP hD hS (lv_sub hl [0, 1, 3, 4] rfl)
        · have hf := o_in c41 hf
          refine lv_aload_n hx hb dX6_adds_44 rfl (lv_at hl 0 rfl) ?_
          refine va_get (ci := 6) (v := .ref (q 5)) (C := RX6) (T := TX6) (N := 26) hx hb hts inlX6 hown hE.1 hP 0 rfl rfl 5 (by decide) (hts _ wB84) (fun _ h9 => h9) rfl dX6_adds_45 ?_
          refine lv_bipush (v := 12) hx hb dX6_adds_48 (by decide) ?_
          refine lv_iload_n hx hb dX6_adds_50 rfl (lv_at hl 1 rfl) ?_
          refine lv_imul hx hb dX6_adds_51 ?_
          refine lv_iload hx hb dX6_adds_52 (lv_at hl 5 rfl) ?_
          refine lv_iadd hx hb dX6_adds_54 ?_
          obtain ⟨hg55, hf⟩ := gd_s hf
          refine va_iald (f := (gR s37.2.2 4)) hx hb hE.1 hP 5 0 rfl rfl hg55 dX6_adds_55 ?_
          refine lv_aload_n hx hb dX6_adds_56 rfl (lv_at hl 0 rfl) ?_
          refine va_get (ci := 6) (v := .ref (q 5)) (C := RX6) (T := TX6) (N := 26) hx hb hts inlX6 hown hE.1 hP 0 rfl rfl 5 (by decide) (hts _ wB84) (fun _ h9 => h9) rfl dX6_adds_57 ?_
          refine lv_bipush (v := 12) hx hb dX6_adds_60 (by decide) ?_
          refine lv_iload_n hx hb dX6_adds_62 rfl (lv_at hl 2 rfl) ?_
          refine lv_imul hx hb dX6_adds_63 ?_
          refine lv_iload hx hb dX6_adds_64 (lv_at hl 5 rfl) ?_
          refine lv_iadd hx hb dX6_adds_66 ?_
          obtain ⟨hg67, hf⟩ := gd_s hf
          refine va_iald (f := (gR s37.2.2 4)) hx hb hE.1 hP 5 0 rfl rfl hg67 dX6_adds_67 ?_
          refine lv_iadd hx hb dX6_adds_68 ?_
          refine lv_iload_n hx hb dX6_adds_69 rfl (lv_at hl 3 rfl) ?_
          refine lv_iadd hx hb dX6_adds_70 ?_
          refine lv_istore (lv' := [(6, .int ((((gR s37.2.2 4) (((12 * a1) + s37.2.1).toNatClampNeg)) + ((gR s37.2.2 4) (((12 * a2) + s37.2.1).toNatClampNeg))) + s37.1)), (0, .ref (q 0)), (1, .int a1), (2, .int a2), (3, .int s37.1), (4, .int ((gR u 5) (a2.toNatClampNeg))), (5, .int s37.2.1)]) hx hb dX6_adds_71 hl (by decide) rfl (fun ls hl => ?_)
          refine lv_aload_n hx hb dX6_adds_73 rfl (lv_at hl 1 rfl) ?_
          refine va_get (ci := 6) (v := .ref (q 5)) (C := RX6) (T := TX6) (N := 26) hx hb hts inlX6 hown hE.1 hP 0 rfl rfl 5 (by decide) (hts _ wB84) (fun _ h9 => h9) rfl dX6_adds_74 ?_
          refine lv_bipush (v := 12) hx hb dX6_adds_77 (by decide) ?_
          refine lv_iload_n hx hb dX6_adds_79 rfl (lv_at hl 2 rfl) ?_
          refine lv_imul hx hb dX6_adds_80 ?_
          refine lv_iload hx hb dX6_adds_81 (lv_at hl 6 rfl) ?_
          refine lv_iadd hx hb dX6_adds_83 ?_
          refine lv_iload hx hb dX6_adds_84 (lv_at hl 0 rfl) ?_
          refine lv_ldc (v := 1073741823) hx hb hown (hts _ wB605) dX6_adds_86 ?_
          refine lv_iand hx hb dX6_adds_88 ?_
          obtain ⟨hg89, hf⟩ := gd_s hf
          refine va_iast (f := (gR s37.2.2 4)) hx hb hE.1 hP hD hS 5 0 rfl rfl hg89 dX6_adds_89 (fun H locs hP hD hS => ?_)
          have hP : va_P D vwCl (WM q cy (sR s37.2.2 4 (upd (gR s37.2.2 4) (((12 * a1) + s37.2.1).toNatClampNeg) (((((gR s37.2.2 4) (((12 * a1) + s37.2.1).toNatClampNeg)) + ((gR s37.2.2 4) (((12 * a2) + s37.2.1).toNatClampNeg))) + s37.1) &&& 1073741823))) ++ rest) H := hP
          have hD : va_D A (WM q cy (sR s37.2.2 4 (upd (gR s37.2.2 4) (((12 * a1) + s37.2.1).toNatClampNeg) (((((gR s37.2.2 4) (((12 * a1) + s37.2.1).toNatClampNeg)) + ((gR s37.2.2 4) (((12 * a2) + s37.2.1).toNatClampNeg))) + s37.1) &&& 1073741823))) ++ rest) := hD
          refine lv_iload hx hb dX6_adds_90 (lv_at hl 0 rfl) ?_
          refine lv_bipush (v := 30) hx hb dX6_adds_92 (by decide) ?_
          refine lv_iushr (v := (((((gR s37.2.2 4) (((12 * a1) + s37.2.1).toNatClampNeg)) + ((gR s37.2.2 4) (((12 * a2) + s37.2.1).toNatClampNeg))) + s37.1).toUInt32 >>> ((30 : Int32).toUInt32 &&& Int32.toUInt32 31)).toInt32) hx hb dX6_adds_94 rfl ?_
          refine lv_istore_n (lv' := [(3, .int ((((((gR s37.2.2 4) (((12 * a1) + s37.2.1).toNatClampNeg)) + ((gR s37.2.2 4) (((12 * a2) + s37.2.1).toNatClampNeg))) + s37.1).toUInt32 >>> ((30 : Int32).toUInt32 &&& Int32.toUInt32 31)).toInt32)), (6, .int ((((gR s37.2.2 4) (((12 * a1) + s37.2.1).toNatClampNeg)) + ((gR s37.2.2 4) (((12 * a2) + s37.2.1).toNatClampNeg))) + s37.1)), (0, .ref (q 0)), (1, .int a1), (2, .int a2), (4, .int ((gR u 5) (a2.toNatClampNeg))), (5, .int s37.2.1)]) hx hb dX6_adds_95 rfl hl (by decide) rfl (fun ls hl => ?_)
          refine lv_iinc (v := (s37.2.1 + 1)) (lv' := [(5, .int (s37.2.1 + 1)), (3, .int ((((((gR s37.2.2 4) (((12 * a1) + s37.2.1).toNatClampNeg)) + ((gR s37.2.2 4) (((12 * a2) + s37.2.1).toNatClampNeg))) + s37.1).toUInt32 >>> ((30 : Int32).toUInt32 &&& Int32.toUInt32 31)).toInt32)), (6, .int ((((gR s37.2.2 4) (((12 * a1) + s37.2.1).toNatClampNeg)) + ((gR s37.2.2 4) (((12 * a2) + s37.2.1).toNatClampNeg))) + s37.1)), (0, .ref (q 0)), (1, .int a1), (2, .int a2), (4, .int ((gR u 5) (a2.toNatClampNeg)))]) hx hb dX6_adds_96 hl (k := 6) rfl (by rfl) (by decide) rfl (fun ls hl => ?_)
          refine lv_goto (tgt := 37) hx hb dX6_adds_99 (by decide) ?_
          obtain rfl := o_ret hf
          exact ih37 _ _ (lpK_r h37z) _ _ _ hP hD hS (lv_sub hl [3, 4, 5, 1, 6, 0] rfl) K37_0
    obtain ⟨e37, h37q, hf⟩ := o_bs hf
    obtain ⟨n37v, h37q⟩ := lpF_ex h37q
    refine L37 n37v _ e37 h37q _ _ _ hP hD hS (lv_sub hl [3, 4, 5, 2, 1, 0] rfl) ?_
    intro H locs ls hP hD hS hl
    refine lv_aload_n hx hb dX6_adds_102 rfl (lv_at hl 0 rfl) ?_
    refine va_get (ci := 6) (v := .ref (q 5)) (C := RX6) (T := TX6) (N := 26) hx hb hts inlX6 hown hE.1 hP 0 rfl rfl 5 (by decide) (hts _ wB84) (fun _ h9 => h9) rfl dX6_adds_103 ?_
    refine lv_bipush (v := 12) hx hb dX6_adds_106 (by decide) ?_
    refine lv_iload_n hx hb dX6_adds_108 rfl (lv_at hl 1 rfl) ?_
    refine lv_imul hx hb dX6_adds_109 ?_
    refine lv_iload hx hb dX6_adds_110 (lv_at hl 3 rfl) ?_
    refine lv_iadd hx hb dX6_adds_112 ?_
    refine lv_iload_n hx hb dX6_adds_113 rfl (lv_at hl 2 rfl) ?_
    obtain ⟨hg114, hf⟩ := gd_s hf
    refine va_iast (f := (gR e37.2 4)) hx hb hE.1 hP hD hS 5 0 rfl rfl hg114 dX6_adds_114 (fun H locs hP hD hS => ?_)
    have hP : va_P D vwCl (WM q cy (sR e37.2 4 (upd (gR e37.2 4) (((12 * a1) + ((gR u 5) (a2.toNatClampNeg))).toNatClampNeg) e37.1)) ++ rest) H := hP
    have hD : va_D A (WM q cy (sR e37.2 4 (upd (gR e37.2 4) (((12 * a1) + ((gR u 5) (a2.toNatClampNeg))).toNatClampNeg) e37.1)) ++ rest) := hD
    refine lv_aload_n hx hb dX6_adds_115 rfl (lv_at hl 0 rfl) ?_
    refine va_get (ci := 6) (v := .ref (q 6)) (C := RX6) (T := TX6) (N := 26) hx hb hts inlX6 hown hE.1 hP 0 rfl rfl 6 (by decide) (hts _ wB85) (fun _ h9 => h9) rfl dX6_adds_116 ?_
    refine lv_iload_n hx hb dX6_adds_119 rfl (lv_at hl 1 rfl) ?_
    refine lv_iload hx hb dX6_adds_120 (lv_at hl 3 rfl) ?_
    refine lv_iload_n hx hb dX6_adds_122 rfl (lv_at hl 2 rfl) ?_
    refine lv_iadd hx hb dX6_adds_123 ?_
    obtain ⟨hg124, hf⟩ := gd_s hf
    refine va_iast (f := (gR e37.2 5)) hx hb hE.1 hP hD hS 6 0 rfl rfl hg124 dX6_adds_124 (fun H locs hP hD hS => ?_)
    sorry
  · sorry
set_option maxRecDepth 100000 in
set_option maxHeartbeats 4000000 in
theorem zX6_adds_v23 (l : Launch) (D : va_G) (cy : Nat → ClassId) (sa : Nat → Nat) (q : Nat → Nat) (rest : va_W) (sz : Nat) (u : KS) (a1 : Int32) (a2 : Int32) (res : KS) (hf : mX6_adds u a1 a2 = some res) : kMv l yX6_adds (wsK yX6_adds cX6_adds 7 none) rmX6_adds D cy sa (WM q cy u ++ rest) sz [.ref (q 0), .int a1, .int a2] (WM q cy res ++ rest) 0 0 := by
  refine kM_of (Qc := fun A => kQv D A (WM q cy res ++ rest)) (cc := cX6_adds) (maxL := 7) (ret := none) (by decide) (Nat.le_of_ble_eq_true rfl) ?_
  intro p e s m below meth c A hx hb hml hr hts hown hlocks hin hA hP hD hS hE hsz ls hl
  have hown : s.vm.findClass RX6 = some m.cls := hown
  obtain ⟨H, hH0⟩ : ∃ H, H = s.heap := ⟨_, rfl⟩
  obtain ⟨locs, hlocs0⟩ : ∃ locs : List Loc, locs = [] := ⟨_, rfl⟩
  have hP : va_P D vwCl (WM q cy u ++ rest) H := by rw [hH0]; exact hP
  have hS : va_S A s.heap H locs := by rw [hH0, hlocs0]; exact hS
  have hl : lv_has ls 7 [(0, .ref (q 0)), (1, .int a1), (2, .int a2)] := hl
  suffices hgoal : W p l e rmX6_adds s m ([.ref (q 0), .int a1, .int a2] : List Value).toArray below meth c H locs 0 0 (MQ below (kQv D A (WM q cy res ++ rest)) ([.ref (q 0), .int a1, .int a2] : List Value).toArray s 0 0 A) (F0 m 0 ls []) by rw [hH0, hlocs0] at hgoal; exact hgoal
  clear hH0 hlocs0
  unfold mX6_adds at hf
  refine lv_iconst (v := 0) hx hb dX6_adds_0 (by decide) ?_
  refine lv_istore_n (lv' := [(3, .int 0), (0, .ref (q 0)), (1, .int a1), (2, .int a2)]) hx hb dX6_adds_1 rfl hl (by decide) rfl (fun ls hl => ?_)
  refine lv_aload_n hx hb dX6_adds_2 rfl (lv_at hl 1 rfl) ?_
  refine va_get (ci := 6) (v := .ref (q 6)) (C := RX6) (T := TX6) (N := 26) hx hb hts inlX6 hown hE.1 hP 0 rfl rfl 6 (by decide) (hts _ wB85) (fun _ h9 => h9) rfl dX6_adds_3 ?_
  refine lv_iload_n hx hb dX6_adds_6 rfl (lv_at hl 2 rfl) ?_
  obtain ⟨hg7, hf⟩ := gd_s hf
  refine va_iald (f := (gR u 5)) hx hb hE.1 hP 6 0 rfl rfl hg7 dX6_adds_7 ?_
  refine lv_aload_n hx hb dX6_adds_8 rfl (lv_at hl 1 rfl) ?_
  refine va_get (ci := 6) (v := .ref (q 6)) (C := RX6) (T := TX6) (N := 26) hx hb hts inlX6 hown hE.1 hP 0 rfl rfl 6 (by decide) (hts _ wB85) (fun _ h9 => h9) rfl dX6_adds_9 ?_
  refine lv_iload_n hx hb dX6_adds_12 rfl (lv_at hl 3 rfl) ?_
  obtain ⟨hg13, hf⟩ := gd_s hf
  refine va_iald (f := (gR u 5)) hx hb hE.1 hP 6 0 rfl rfl hg13 dX6_adds_13 ?_
  refine lv_icmp_le (tgt := 26) hx hb dX6_adds_14 (by decide) (fun c14 => ?_) (fun c14 => ?_)
  · have hf := o_ip c14 hf
    refine lv_aload_n hx hb dX6_adds_26 rfl (lv_at hl 1 rfl) ?_
    refine va_get (ci := 6) (v := .ref (q 6)) (C := RX6) (T := TX6) (N := 26) hx hb hts inlX6 hown hE.1 hP 0 rfl rfl 6 (by decide) (hts _ wB85) (fun _ h9 => h9) rfl dX6_adds_27 ?_
    refine lv_iload_n hx hb dX6_adds_30 rfl (lv_at hl 3 rfl) ?_
    obtain ⟨hg31, hf⟩ := gd_s hf
    refine va_iald (f := (gR u 5)) hx hb hE.1 hP 6 0 rfl rfl hg31 dX6_adds_31 ?_
    refine lv_istore (lv' := [(4, .int ((gR u 5) (a2.toNatClampNeg))), (3, .int 0), (0, .ref (q 0)), (1, .int a1), (2, .int a2)]) hx hb dX6_adds_32 hl (by decide) rfl (fun ls hl => ?_)
    refine lv_iconst (v := 0) hx hb dX6_adds_34 (by decide) ?_
    refine lv_istore (lv' := [(5, .int 0), (4, .int ((gR u 5) (a2.toNatClampNeg))), (3, .int 0), (0, .ref (q 0)), (1, .int a1), (2, .int a2)]) hx hb dX6_adds_35 hl (by decide) rfl (fun ls hl => ?_)
    have L37 : ∀ (n37v : Nat) (s37 : Int32 × Int32 × KS) (e37 : (Int32 × KS)), lpO (mX6_adds_s37 a1 a2 ((gR u 5) (a2.toNatClampNeg))) n37v s37 = some e37 → ∀ (H : Heap) (locs : List Loc) (ls : Array Slot), va_P D vwCl (WM q cy s37.2.2 ++ rest) H → va_D A (WM q cy s37.2.2 ++ rest) → va_S A s.heap H locs → lv_has ls 7 [(0, .ref (q 0)), (1, .int a1), (2, .int a2), (3, .int s37.1), (4, .int ((gR u 5) (a2.toNatClampNeg))), (5, .int s37.2.1)] → (∀ (H : Heap) (locs : List Loc) (ls : Array Slot), va_P D vwCl (WM q cy e37.2 ++ rest) H → va_D A (WM q cy e37.2 ++ rest) → va_S A s.heap H locs → lv_has ls 7 [(0, .ref (q 0)), (1, .int a1), (3, .int e37.1), (4, .int ((gR u 5) (a2.toNatClampNeg)))] → W p l e rmX6_adds s m ([.ref (q 0), .int a1, .int a2] : List Value).toArray below meth c H locs 0 0 (MQ below (kQv D A (WM q cy res ++ rest)) ([.ref (q 0), .int a1, .int a2] : List Value).toArray s 0 0 A) (F0 m 102 ls [])) → W p l e rmX6_adds s m ([.ref (q 0), .int a1, .int a2] : List Value).toArray below meth c H locs 0 0 (MQ below (kQv D A (WM q cy res ++ rest)) ([.ref (q 0), .int a1, .int a2] : List Value).toArray s 0 0 A) (F0 m 37 ls []) := by
      intro n37v
      induction n37v with
      | zero => intro s37 e37 h; exact (lpO_z h).elim
      | succ n37v ih37 =>
        intro s37 e37 h37z H locs ls hP hD hS hl K37_0
        obtain ⟨x37, hf, h37z⟩ := lpO_s h37z
        unfold mX6_adds_s37 at hf
        refine lv_iload hx hb dX6_adds_37 (lv_at hl 5 rfl) ?_
        refine lv_iload hx hb dX6_adds_39 (lv_at hl 4 rfl) ?_
        refine lv_icmp_ge (tgt := 102) hx hb dX6_adds_41 (by decide) (fun c41 => ?_) (fun c41 => ?_)
        · have hf := o_ip c41 hf
          obtain rfl := o_ret hf
          obtain rfl := lpK_l h37z
          exact K37_0 _ _ _ hP hD hS (lv_sub hl [0, 1, 3, 4] rfl)
        · have hf := o_in c41 hf
          refine lv_aload_n hx hb dX6_adds_44 rfl (lv_at hl 0 rfl) ?_
          refine va_get (ci := 6) (v := .ref (q 5)) (C := RX6) (T := TX6) (N := 26) hx hb hts inlX6 hown hE.1 hP 0 rfl rfl 5 (by decide) (hts _ wB84) (fun _ h9 => h9) rfl dX6_adds_45 ?_
          refine lv_bipush (v := 12) hx hb dX6_adds_48 (by decide) ?_
          refine lv_iload_n hx hb dX6_adds_50 rfl (lv_at hl 1 rfl) ?_
          refine lv_imul hx hb dX6_adds_51 ?_
          refine lv_iload hx hb dX6_adds_52 (lv_at hl 5 rfl) ?_
          refine lv_iadd hx hb dX6_adds_54 ?_
          obtain ⟨hg55, hf⟩ := gd_s hf
          refine va_iald (f := (gR s37.2.2 4)) hx hb hE.1 hP 5 0 rfl rfl hg55 dX6_adds_55 ?_
          refine lv_aload_n hx hb dX6_adds_56 rfl (lv_at hl 0 rfl) ?_
          refine va_get (ci := 6) (v := .ref (q 5)) (C := RX6) (T := TX6) (N := 26) hx hb hts inlX6 hown hE.1 hP 0 rfl rfl 5 (by decide) (hts _ wB84) (fun _ h9 => h9) rfl dX6_adds_57 ?_
          refine lv_bipush (v := 12) hx hb dX6_adds_60 (by decide) ?_
          refine lv_iload_n hx hb dX6_adds_62 rfl (lv_at hl 2 rfl) ?_
          refine lv_imul hx hb dX6_adds_63 ?_
          refine lv_iload hx hb dX6_adds_64 (lv_at hl 5 rfl) ?_
          refine lv_iadd hx hb dX6_adds_66 ?_
          obtain ⟨hg67, hf⟩ := gd_s hf
          refine va_iald (f := (gR s37.2.2 4)) hx hb hE.1 hP 5 0 rfl rfl hg67 dX6_adds_67 ?_
          refine lv_iadd hx hb dX6_adds_68 ?_
          refine lv_iload_n hx hb dX6_adds_69 rfl (lv_at hl 3 rfl) ?_
          refine lv_iadd hx hb dX6_adds_70 ?_
          refine lv_istore (lv' := [(6, .int ((((gR s37.2.2 4) (((12 * a1) + s37.2.1).toNatClampNeg)) + ((gR s37.2.2 4) (((12 * a2) + s37.2.1).toNatClampNeg))) + s37.1)), (0, .ref (q 0)), (1, .int a1), (2, .int a2), (3, .int s37.1), (4, .int ((gR u 5) (a2.toNatClampNeg))), (5, .int s37.2.1)]) hx hb dX6_adds_71 hl (by decide) rfl (fun ls hl => ?_)
          refine lv_aload_n hx hb dX6_adds_73 rfl (lv_at hl 1 rfl) ?_
          refine va_get (ci := 6) (v := .ref (q 5)) (C := RX6) (T := TX6) (N := 26) hx hb hts inlX6 hown hE.1 hP 0 rfl rfl 5 (by decide) (hts _ wB84) (fun _ h9 => h9) rfl dX6_adds_74 ?_
          refine lv_bipush (v := 12) hx hb dX6_adds_77 (by decide) ?_
          refine lv_iload_n hx hb dX6_adds_79 rfl (lv_at hl 2 rfl) ?_
          refine lv_imul hx hb dX6_adds_80 ?_
          refine lv_iload hx hb dX6_adds_81 (lv_at hl 6 rfl) ?_
          refine lv_iadd hx hb dX6_adds_83 ?_
          refine lv_iload hx hb dX6_adds_84 (lv_at hl 0 rfl) ?_
          refine lv_ldc (v := 1073741823) hx hb hown (hts _ wB605) dX6_adds_86 ?_
          refine lv_iand hx hb dX6_adds_88 ?_
          obtain ⟨hg89, hf⟩ := gd_s hf
          refine va_iast (f := (gR s37.2.2 4)) hx hb hE.1 hP hD hS 5 0 rfl rfl hg89 dX6_adds_89 (fun H locs hP hD hS => ?_)
          have hP : va_P D vwCl (WM q cy (sR s37.2.2 4 (upd (gR s37.2.2 4) (((12 * a1) + s37.2.1).toNatClampNeg) (((((gR s37.2.2 4) (((12 * a1) + s37.2.1).toNatClampNeg)) + ((gR s37.2.2 4) (((12 * a2) + s37.2.1).toNatClampNeg))) + s37.1) &&& 1073741823))) ++ rest) H := hP
          have hD : va_D A (WM q cy (sR s37.2.2 4 (upd (gR s37.2.2 4) (((12 * a1) + s37.2.1).toNatClampNeg) (((((gR s37.2.2 4) (((12 * a1) + s37.2.1).toNatClampNeg)) + ((gR s37.2.2 4) (((12 * a2) + s37.2.1).toNatClampNeg))) + s37.1) &&& 1073741823))) ++ rest) := hD
          refine lv_iload hx hb dX6_adds_90 (lv_at hl 0 rfl) ?_
          refine lv_bipush (v := 30) hx hb dX6_adds_92 (by decide) ?_
          refine lv_iushr (v := (((((gR s37.2.2 4) (((12 * a1) + s37.2.1).toNatClampNeg)) + ((gR s37.2.2 4) (((12 * a2) + s37.2.1).toNatClampNeg))) + s37.1).toUInt32 >>> ((30 : Int32).toUInt32 &&& Int32.toUInt32 31)).toInt32) hx hb dX6_adds_94 rfl ?_
          refine lv_istore_n (lv' := [(3, .int ((((((gR s37.2.2 4) (((12 * a1) + s37.2.1).toNatClampNeg)) + ((gR s37.2.2 4) (((12 * a2) + s37.2.1).toNatClampNeg))) + s37.1).toUInt32 >>> ((30 : Int32).toUInt32 &&& Int32.toUInt32 31)).toInt32)), (6, .int ((((gR s37.2.2 4) (((12 * a1) + s37.2.1).toNatClampNeg)) + ((gR s37.2.2 4) (((12 * a2) + s37.2.1).toNatClampNeg))) + s37.1)), (0, .ref (q 0)), (1, .int a1), (2, .int a2), (4, .int ((gR u 5) (a2.toNatClampNeg))), (5, .int s37.2.1)]) hx hb dX6_adds_95 rfl hl (by decide) rfl (fun ls hl => ?_)
          refine lv_iinc (v := (s37.2.1 + 1)) (lv' := [(5, .int (s37.2.1 + 1)), (3, .int ((((((gR s37.2.2 4) (((12 * a1) + s37.2.1).toNatClampNeg)) + ((gR s37.2.2 4) (((12 * a2) + s37.2.1).toNatClampNeg))) + s37.1).toUInt32 >>> ((30 : Int32).toUInt32 &&& Int32.toUInt32 31)).toInt32)), (6, .int ((((gR s37.2.2 4) (((12 * a1) + s37.2.1).toNatClampNeg)) + ((gR s37.2.2 4) (((12 * a2) + s37.2.1).toNatClampNeg))) + s37.1)), (0, .ref (q 0)), (1, .int a1), (2, .int a2), (4, .int ((gR u 5) (a2.toNatClampNeg)))]) hx hb dX6_adds_96 hl (k := 6) rfl (by rfl) (by decide) rfl (fun ls hl => ?_)
          refine lv_goto (tgt := 37) hx hb dX6_adds_99 (by decide) ?_
          obtain rfl := o_ret hf
          exact ih37 _ _ (lpK_r h37z) _ _ _ hP hD hS (lv_sub hl [3, 4, 5, 1, 6, 0] rfl) K37_0
    obtain ⟨e37, h37q, hf⟩ := o_bs hf
    obtain ⟨n37v, h37q⟩ := lpF_ex h37q
    refine L37 n37v _ e37 h37q _ _ _ hP hD hS (lv_sub hl [3, 4, 5, 2, 1, 0] rfl) ?_
    intro H locs ls hP hD hS hl
    refine lv_aload_n hx hb dX6_adds_102 rfl (lv_at hl 0 rfl) ?_
    refine va_get (ci := 6) (v := .ref (q 5)) (C := RX6) (T := TX6) (N := 26) hx hb hts inlX6 hown hE.1 hP 0 rfl rfl 5 (by decide) (hts _ wB84) (fun _ h9 => h9) rfl dX6_adds_103 ?_
    refine lv_bipush (v := 12) hx hb dX6_adds_106 (by decide) ?_
    refine lv_iload_n hx hb dX6_adds_108 rfl (lv_at hl 1 rfl) ?_
    refine lv_imul hx hb dX6_adds_109 ?_
    refine lv_iload hx hb dX6_adds_110 (lv_at hl 3 rfl) ?_
    refine lv_iadd hx hb dX6_adds_112 ?_
    refine lv_iload_n hx hb dX6_adds_113 rfl (lv_at hl 2 rfl) ?_
    obtain ⟨hg114, hf⟩ := gd_s hf
    refine va_iast (f := (gR e37.2 4)) hx hb hE.1 hP hD hS 5 0 rfl rfl hg114 dX6_adds_114 (fun H locs hP hD hS => ?_)
    have hP : va_P D vwCl (WM q cy (sR e37.2 4 (upd (gR e37.2 4) (((12 * a1) + ((gR u 5) (a2.toNatClampNeg))).toNatClampNeg) e37.1)) ++ rest) H := hP
    have hD : va_D A (WM q cy (sR e37.2 4 (upd (gR e37.2 4) (((12 * a1) + ((gR u 5) (a2.toNatClampNeg))).toNatClampNeg) e37.1)) ++ rest) := hD
    refine lv_aload_n hx hb dX6_adds_115 rfl (lv_at hl 0 rfl) ?_
    refine va_get (ci := 6) (v := .ref (q 6)) (C := RX6) (T := TX6) (N := 26) hx hb hts inlX6 hown hE.1 hP 0 rfl rfl 6 (by decide) (hts _ wB85) (fun _ h9 => h9) rfl dX6_adds_116 ?_
    refine lv_iload_n hx hb dX6_adds_119 rfl (lv_at hl 1 rfl) ?_
    refine lv_iload hx hb dX6_adds_120 (lv_at hl 3 rfl) ?_
    refine lv_iload_n hx hb dX6_adds_122 rfl (lv_at hl 2 rfl) ?_
    refine lv_iadd hx hb dX6_adds_123 ?_
    obtain ⟨hg124, hf⟩ := gd_s hf
    refine va_iast (f := (gR e37.2 5)) hx hb hE.1 hP hD hS 6 0 rfl rfl hg124 dX6_adds_124 (fun H locs hP hD hS => ?_)
    have hQ := ((fun xb x0 xn => rfl : ∀ (xb : KS) (x0 : (Nat → Int32)) (xn : (Nat → Int32)), (WM q cy (sR xb 4 x0) ++ rest).set 6 (q 6, .inl (cy 0, 7, .inl xn)) = WM q cy (sR (sR xb 4 x0) 5 xn) ++ rest) e37.2 (upd (gR e37.2 4) (((12 * a1) + ((gR u 5) (a2.toNatClampNeg))).toNatClampNeg) e37.1) (upd (gR e37.2 5) (a1.toNatClampNeg) (((gR u 5) (a2.toNatClampNeg)) + e37.1)))
    sorry
  · sorry
set_option maxRecDepth 100000 in
set_option maxHeartbeats 4000000 in
theorem zX6_adds_v24 (l : Launch) (D : va_G) (cy : Nat → ClassId) (sa : Nat → Nat) (q : Nat → Nat) (rest : va_W) (sz : Nat) (u : KS) (a1 : Int32) (a2 : Int32) (res : KS) (hf : mX6_adds u a1 a2 = some res) : kMv l yX6_adds (wsK yX6_adds cX6_adds 7 none) rmX6_adds D cy sa (WM q cy u ++ rest) sz [.ref (q 0), .int a1, .int a2] (WM q cy res ++ rest) 0 0 := by
  refine kM_of (Qc := fun A => kQv D A (WM q cy res ++ rest)) (cc := cX6_adds) (maxL := 7) (ret := none) (by decide) (Nat.le_of_ble_eq_true rfl) ?_
  intro p e s m below meth c A hx hb hml hr hts hown hlocks hin hA hP hD hS hE hsz ls hl
  have hown : s.vm.findClass RX6 = some m.cls := hown
  obtain ⟨H, hH0⟩ : ∃ H, H = s.heap := ⟨_, rfl⟩
  obtain ⟨locs, hlocs0⟩ : ∃ locs : List Loc, locs = [] := ⟨_, rfl⟩
  have hP : va_P D vwCl (WM q cy u ++ rest) H := by rw [hH0]; exact hP
  have hS : va_S A s.heap H locs := by rw [hH0, hlocs0]; exact hS
  have hl : lv_has ls 7 [(0, .ref (q 0)), (1, .int a1), (2, .int a2)] := hl
  suffices hgoal : W p l e rmX6_adds s m ([.ref (q 0), .int a1, .int a2] : List Value).toArray below meth c H locs 0 0 (MQ below (kQv D A (WM q cy res ++ rest)) ([.ref (q 0), .int a1, .int a2] : List Value).toArray s 0 0 A) (F0 m 0 ls []) by rw [hH0, hlocs0] at hgoal; exact hgoal
  clear hH0 hlocs0
  unfold mX6_adds at hf
  refine lv_iconst (v := 0) hx hb dX6_adds_0 (by decide) ?_
  refine lv_istore_n (lv' := [(3, .int 0), (0, .ref (q 0)), (1, .int a1), (2, .int a2)]) hx hb dX6_adds_1 rfl hl (by decide) rfl (fun ls hl => ?_)
  refine lv_aload_n hx hb dX6_adds_2 rfl (lv_at hl 1 rfl) ?_
  refine va_get (ci := 6) (v := .ref (q 6)) (C := RX6) (T := TX6) (N := 26) hx hb hts inlX6 hown hE.1 hP 0 rfl rfl 6 (by decide) (hts _ wB85) (fun _ h9 => h9) rfl dX6_adds_3 ?_
  refine lv_iload_n hx hb dX6_adds_6 rfl (lv_at hl 2 rfl) ?_
  obtain ⟨hg7, hf⟩ := gd_s hf
  refine va_iald (f := (gR u 5)) hx hb hE.1 hP 6 0 rfl rfl hg7 dX6_adds_7 ?_
  refine lv_aload_n hx hb dX6_adds_8 rfl (lv_at hl 1 rfl) ?_
  refine va_get (ci := 6) (v := .ref (q 6)) (C := RX6) (T := TX6) (N := 26) hx hb hts inlX6 hown hE.1 hP 0 rfl rfl 6 (by decide) (hts _ wB85) (fun _ h9 => h9) rfl dX6_adds_9 ?_
  refine lv_iload_n hx hb dX6_adds_12 rfl (lv_at hl 3 rfl) ?_
  obtain ⟨hg13, hf⟩ := gd_s hf
  refine va_iald (f := (gR u 5)) hx hb hE.1 hP 6 0 rfl rfl hg13 dX6_adds_13 ?_
  refine lv_icmp_le (tgt := 26) hx hb dX6_adds_14 (by decide) (fun c14 => ?_) (fun c14 => ?_)
  · have hf := o_ip c14 hf
    refine lv_aload_n hx hb dX6_adds_26 rfl (lv_at hl 1 rfl) ?_
    refine va_get (ci := 6) (v := .ref (q 6)) (C := RX6) (T := TX6) (N := 26) hx hb hts inlX6 hown hE.1 hP 0 rfl rfl 6 (by decide) (hts _ wB85) (fun _ h9 => h9) rfl dX6_adds_27 ?_
    refine lv_iload_n hx hb dX6_adds_30 rfl (lv_at hl 3 rfl) ?_
    obtain ⟨hg31, hf⟩ := gd_s hf
    refine va_iald (f := (gR u 5)) hx hb hE.1 hP 6 0 rfl rfl hg31 dX6_adds_31 ?_
    refine lv_istore (lv' := [(4, .int ((gR u 5) (a2.toNatClampNeg))), (3, .int 0), (0, .ref (q 0)), (1, .int a1), (2, .int a2)]) hx hb dX6_adds_32 hl (by decide) rfl (fun ls hl => ?_)
    refine lv_iconst (v := 0) hx hb dX6_adds_34 (by decide) ?_
    refine lv_istore (lv' := [(5, .int 0), (4, .int ((gR u 5) (a2.toNatClampNeg))), (3, .int 0), (0, .ref (q 0)), (1, .int a1), (2, .int a2)]) hx hb dX6_adds_35 hl (by decide) rfl (fun ls hl => ?_)
    have L37 : ∀ (n37v : Nat) (s37 : Int32 × Int32 × KS) (e37 : (Int32 × KS)), lpO (mX6_adds_s37 a1 a2 ((gR u 5) (a2.toNatClampNeg))) n37v s37 = some e37 → ∀ (H : Heap) (locs : List Loc) (ls : Array Slot), va_P D vwCl (WM q cy s37.2.2 ++ rest) H → va_D A (WM q cy s37.2.2 ++ rest) → va_S A s.heap H locs → lv_has ls 7 [(0, .ref (q 0)), (1, .int a1), (2, .int a2), (3, .int s37.1), (4, .int ((gR u 5) (a2.toNatClampNeg))), (5, .int s37.2.1)] → (∀ (H : Heap) (locs : List Loc) (ls : Array Slot), va_P D vwCl (WM q cy e37.2 ++ rest) H → va_D A (WM q cy e37.2 ++ rest) → va_S A s.heap H locs → lv_has ls 7 [(0, .ref (q 0)), (1, .int a1), (3, .int e37.1), (4, .int ((gR u 5) (a2.toNatClampNeg)))] → W p l e rmX6_adds s m ([.ref (q 0), .int a1, .int a2] : List Value).toArray below meth c H locs 0 0 (MQ below (kQv D A (WM q cy res ++ rest)) ([.ref (q 0), .int a1, .int a2] : List Value).toArray s 0 0 A) (F0 m 102 ls [])) → W p l e rmX6_adds s m ([.ref (q 0), .int a1, .int a2] : List Value).toArray below meth c H locs 0 0 (MQ below (kQv D A (WM q cy res ++ rest)) ([.ref (q 0), .int a1, .int a2] : List Value).toArray s 0 0 A) (F0 m 37 ls []) := by
      intro n37v
      induction n37v with
      | zero => intro s37 e37 h; exact (lpO_z h).elim
      | succ n37v ih37 =>
        intro s37 e37 h37z H locs ls hP hD hS hl K37_0
        obtain ⟨x37, hf, h37z⟩ := lpO_s h37z
        unfold mX6_adds_s37 at hf
        refine lv_iload hx hb dX6_adds_37 (lv_at hl 5 rfl) ?_
        refine lv_iload hx hb dX6_adds_39 (lv_at hl 4 rfl) ?_
        refine lv_icmp_ge (tgt := 102) hx hb dX6_adds_41 (by decide) (fun c41 => ?_) (fun c41 => ?_)
        · have hf := o_ip c41 hf
          obtain rfl := o_ret hf
          obtain rfl := lpK_l h37z
          exact K37_0 _ _ _ hP hD hS (lv_sub hl [0, 1, 3, 4] rfl)
        · have hf := o_in c41 hf
          refine lv_aload_n hx hb dX6_adds_44 rfl (lv_at hl 0 rfl) ?_
          refine va_get (ci := 6) (v := .ref (q 5)) (C := RX6) (T := TX6) (N := 26) hx hb hts inlX6 hown hE.1 hP 0 rfl rfl 5 (by decide) (hts _ wB84) (fun _ h9 => h9) rfl dX6_adds_45 ?_
          refine lv_bipush (v := 12) hx hb dX6_adds_48 (by decide) ?_
          refine lv_iload_n hx hb dX6_adds_50 rfl (lv_at hl 1 rfl) ?_
          refine lv_imul hx hb dX6_adds_51 ?_
          refine lv_iload hx hb dX6_adds_52 (lv_at hl 5 rfl) ?_
          refine lv_iadd hx hb dX6_adds_54 ?_
          obtain ⟨hg55, hf⟩ := gd_s hf
          refine va_iald (f := (gR s37.2.2 4)) hx hb hE.1 hP 5 0 rfl rfl hg55 dX6_adds_55 ?_
          refine lv_aload_n hx hb dX6_adds_56 rfl (lv_at hl 0 rfl) ?_
          refine va_get (ci := 6) (v := .ref (q 5)) (C := RX6) (T := TX6) (N := 26) hx hb hts inlX6 hown hE.1 hP 0 rfl rfl 5 (by decide) (hts _ wB84) (fun _ h9 => h9) rfl dX6_adds_57 ?_
          refine lv_bipush (v := 12) hx hb dX6_adds_60 (by decide) ?_
          refine lv_iload_n hx hb dX6_adds_62 rfl (lv_at hl 2 rfl) ?_
          refine lv_imul hx hb dX6_adds_63 ?_
          refine lv_iload hx hb dX6_adds_64 (lv_at hl 5 rfl) ?_
          refine lv_iadd hx hb dX6_adds_66 ?_
          obtain ⟨hg67, hf⟩ := gd_s hf
          refine va_iald (f := (gR s37.2.2 4)) hx hb hE.1 hP 5 0 rfl rfl hg67 dX6_adds_67 ?_
          refine lv_iadd hx hb dX6_adds_68 ?_
          refine lv_iload_n hx hb dX6_adds_69 rfl (lv_at hl 3 rfl) ?_
          refine lv_iadd hx hb dX6_adds_70 ?_
          refine lv_istore (lv' := [(6, .int ((((gR s37.2.2 4) (((12 * a1) + s37.2.1).toNatClampNeg)) + ((gR s37.2.2 4) (((12 * a2) + s37.2.1).toNatClampNeg))) + s37.1)), (0, .ref (q 0)), (1, .int a1), (2, .int a2), (3, .int s37.1), (4, .int ((gR u 5) (a2.toNatClampNeg))), (5, .int s37.2.1)]) hx hb dX6_adds_71 hl (by decide) rfl (fun ls hl => ?_)
          refine lv_aload_n hx hb dX6_adds_73 rfl (lv_at hl 1 rfl) ?_
          refine va_get (ci := 6) (v := .ref (q 5)) (C := RX6) (T := TX6) (N := 26) hx hb hts inlX6 hown hE.1 hP 0 rfl rfl 5 (by decide) (hts _ wB84) (fun _ h9 => h9) rfl dX6_adds_74 ?_
          refine lv_bipush (v := 12) hx hb dX6_adds_77 (by decide) ?_
          refine lv_iload_n hx hb dX6_adds_79 rfl (lv_at hl 2 rfl) ?_
          refine lv_imul hx hb dX6_adds_80 ?_
          refine lv_iload hx hb dX6_adds_81 (lv_at hl 6 rfl) ?_
          refine lv_iadd hx hb dX6_adds_83 ?_
          refine lv_iload hx hb dX6_adds_84 (lv_at hl 0 rfl) ?_
          refine lv_ldc (v := 1073741823) hx hb hown (hts _ wB605) dX6_adds_86 ?_
          refine lv_iand hx hb dX6_adds_88 ?_
          obtain ⟨hg89, hf⟩ := gd_s hf
          refine va_iast (f := (gR s37.2.2 4)) hx hb hE.1 hP hD hS 5 0 rfl rfl hg89 dX6_adds_89 (fun H locs hP hD hS => ?_)
          have hP : va_P D vwCl (WM q cy (sR s37.2.2 4 (upd (gR s37.2.2 4) (((12 * a1) + s37.2.1).toNatClampNeg) (((((gR s37.2.2 4) (((12 * a1) + s37.2.1).toNatClampNeg)) + ((gR s37.2.2 4) (((12 * a2) + s37.2.1).toNatClampNeg))) + s37.1) &&& 1073741823))) ++ rest) H := hP
          have hD : va_D A (WM q cy (sR s37.2.2 4 (upd (gR s37.2.2 4) (((12 * a1) + s37.2.1).toNatClampNeg) (((((gR s37.2.2 4) (((12 * a1) + s37.2.1).toNatClampNeg)) + ((gR s37.2.2 4) (((12 * a2) + s37.2.1).toNatClampNeg))) + s37.1) &&& 1073741823))) ++ rest) := hD
          refine lv_iload hx hb dX6_adds_90 (lv_at hl 0 rfl) ?_
          refine lv_bipush (v := 30) hx hb dX6_adds_92 (by decide) ?_
          refine lv_iushr (v := (((((gR s37.2.2 4) (((12 * a1) + s37.2.1).toNatClampNeg)) + ((gR s37.2.2 4) (((12 * a2) + s37.2.1).toNatClampNeg))) + s37.1).toUInt32 >>> ((30 : Int32).toUInt32 &&& Int32.toUInt32 31)).toInt32) hx hb dX6_adds_94 rfl ?_
          refine lv_istore_n (lv' := [(3, .int ((((((gR s37.2.2 4) (((12 * a1) + s37.2.1).toNatClampNeg)) + ((gR s37.2.2 4) (((12 * a2) + s37.2.1).toNatClampNeg))) + s37.1).toUInt32 >>> ((30 : Int32).toUInt32 &&& Int32.toUInt32 31)).toInt32)), (6, .int ((((gR s37.2.2 4) (((12 * a1) + s37.2.1).toNatClampNeg)) + ((gR s37.2.2 4) (((12 * a2) + s37.2.1).toNatClampNeg))) + s37.1)), (0, .ref (q 0)), (1, .int a1), (2, .int a2), (4, .int ((gR u 5) (a2.toNatClampNeg))), (5, .int s37.2.1)]) hx hb dX6_adds_95 rfl hl (by decide) rfl (fun ls hl => ?_)
          refine lv_iinc (v := (s37.2.1 + 1)) (lv' := [(5, .int (s37.2.1 + 1)), (3, .int ((((((gR s37.2.2 4) (((12 * a1) + s37.2.1).toNatClampNeg)) + ((gR s37.2.2 4) (((12 * a2) + s37.2.1).toNatClampNeg))) + s37.1).toUInt32 >>> ((30 : Int32).toUInt32 &&& Int32.toUInt32 31)).toInt32)), (6, .int ((((gR s37.2.2 4) (((12 * a1) + s37.2.1).toNatClampNeg)) + ((gR s37.2.2 4) (((12 * a2) + s37.2.1).toNatClampNeg))) + s37.1)), (0, .ref (q 0)), (1, .int a1), (2, .int a2), (4, .int ((gR u 5) (a2.toNatClampNeg)))]) hx hb dX6_adds_96 hl (k := 6) rfl (by rfl) (by decide) rfl (fun ls hl => ?_)
          refine lv_goto (tgt := 37) hx hb dX6_adds_99 (by decide) ?_
          obtain rfl := o_ret hf
          exact ih37 _ _ (lpK_r h37z) _ _ _ hP hD hS (lv_sub hl [3, 4, 5, 1, 6, 0] rfl) K37_0
    obtain ⟨e37, h37q, hf⟩ := o_bs hf
    obtain ⟨n37v, h37q⟩ := lpF_ex h37q
    refine L37 n37v _ e37 h37q _ _ _ hP hD hS (lv_sub hl [3, 4, 5, 2, 1, 0] rfl) ?_
    intro H locs ls hP hD hS hl
    refine lv_aload_n hx hb dX6_adds_102 rfl (lv_at hl 0 rfl) ?_
    refine va_get (ci := 6) (v := .ref (q 5)) (C := RX6) (T := TX6) (N := 26) hx hb hts inlX6 hown hE.1 hP 0 rfl rfl 5 (by decide) (hts _ wB84) (fun _ h9 => h9) rfl dX6_adds_103 ?_
    refine lv_bipush (v := 12) hx hb dX6_adds_106 (by decide) ?_
    refine lv_iload_n hx hb dX6_adds_108 rfl (lv_at hl 1 rfl) ?_
    refine lv_imul hx hb dX6_adds_109 ?_
    refine lv_iload hx hb dX6_adds_110 (lv_at hl 3 rfl) ?_
    refine lv_iadd hx hb dX6_adds_112 ?_
    refine lv_iload_n hx hb dX6_adds_113 rfl (lv_at hl 2 rfl) ?_
    obtain ⟨hg114, hf⟩ := gd_s hf
    refine va_iast (f := (gR e37.2 4)) hx hb hE.1 hP hD hS 5 0 rfl rfl hg114 dX6_adds_114 (fun H locs hP hD hS => ?_)
    have hP : va_P D vwCl (WM q cy (sR e37.2 4 (upd (gR e37.2 4) (((12 * a1) + ((gR u 5) (a2.toNatClampNeg))).toNatClampNeg) e37.1)) ++ rest) H := hP
    have hD : va_D A (WM q cy (sR e37.2 4 (upd (gR e37.2 4) (((12 * a1) + ((gR u 5) (a2.toNatClampNeg))).toNatClampNeg) e37.1)) ++ rest) := hD
    refine lv_aload_n hx hb dX6_adds_115 rfl (lv_at hl 0 rfl) ?_
    refine va_get (ci := 6) (v := .ref (q 6)) (C := RX6) (T := TX6) (N := 26) hx hb hts inlX6 hown hE.1 hP 0 rfl rfl 6 (by decide) (hts _ wB85) (fun _ h9 => h9) rfl dX6_adds_116 ?_
    refine lv_iload_n hx hb dX6_adds_119 rfl (lv_at hl 1 rfl) ?_
    refine lv_iload hx hb dX6_adds_120 (lv_at hl 3 rfl) ?_
    refine lv_iload_n hx hb dX6_adds_122 rfl (lv_at hl 2 rfl) ?_
    refine lv_iadd hx hb dX6_adds_123 ?_
    obtain ⟨hg124, hf⟩ := gd_s hf
    refine va_iast (f := (gR e37.2 5)) hx hb hE.1 hP hD hS 6 0 rfl rfl hg124 dX6_adds_124 (fun H locs hP hD hS => ?_)
    have hQ := ((fun xb x0 xn => rfl : ∀ (xb : KS) (x0 : (Nat → Int32)) (xn : (Nat → Int32)), (WM q cy (sR xb 4 x0) ++ rest).set 6 (q 6, .inl (cy 0, 7, .inl xn)) = WM q cy (sR (sR xb 4 x0) 5 xn) ++ rest) e37.2 (upd (gR e37.2 4) (((12 * a1) + ((gR u 5) (a2.toNatClampNeg))).toNatClampNeg) e37.1) (upd (gR e37.2 5) (a1.toNatClampNeg) (((gR u 5) (a2.toNatClampNeg)) + e37.1)))
    have hP : va_P D vwCl (WM q cy (sR (sR e37.2 4 (upd (gR e37.2 4) (((12 * a1) + ((gR u 5) (a2.toNatClampNeg))).toNatClampNeg) e37.1)) 5 (upd (gR e37.2 5) (a1.toNatClampNeg) (((gR u 5) (a2.toNatClampNeg)) + e37.1))) ++ rest) H := k_wP hQ hP
    sorry
  · sorry
set_option maxRecDepth 100000 in
set_option maxHeartbeats 4000000 in
theorem zX6_adds_v25 (l : Launch) (D : va_G) (cy : Nat → ClassId) (sa : Nat → Nat) (q : Nat → Nat) (rest : va_W) (sz : Nat) (u : KS) (a1 : Int32) (a2 : Int32) (res : KS) (hf : mX6_adds u a1 a2 = some res) : kMv l yX6_adds (wsK yX6_adds cX6_adds 7 none) rmX6_adds D cy sa (WM q cy u ++ rest) sz [.ref (q 0), .int a1, .int a2] (WM q cy res ++ rest) 0 0 := by
  refine kM_of (Qc := fun A => kQv D A (WM q cy res ++ rest)) (cc := cX6_adds) (maxL := 7) (ret := none) (by decide) (Nat.le_of_ble_eq_true rfl) ?_
  intro p e s m below meth c A hx hb hml hr hts hown hlocks hin hA hP hD hS hE hsz ls hl
  have hown : s.vm.findClass RX6 = some m.cls := hown
  obtain ⟨H, hH0⟩ : ∃ H, H = s.heap := ⟨_, rfl⟩
  obtain ⟨locs, hlocs0⟩ : ∃ locs : List Loc, locs = [] := ⟨_, rfl⟩
  have hP : va_P D vwCl (WM q cy u ++ rest) H := by rw [hH0]; exact hP
  have hS : va_S A s.heap H locs := by rw [hH0, hlocs0]; exact hS
  have hl : lv_has ls 7 [(0, .ref (q 0)), (1, .int a1), (2, .int a2)] := hl
  suffices hgoal : W p l e rmX6_adds s m ([.ref (q 0), .int a1, .int a2] : List Value).toArray below meth c H locs 0 0 (MQ below (kQv D A (WM q cy res ++ rest)) ([.ref (q 0), .int a1, .int a2] : List Value).toArray s 0 0 A) (F0 m 0 ls []) by rw [hH0, hlocs0] at hgoal; exact hgoal
  clear hH0 hlocs0
  unfold mX6_adds at hf
  refine lv_iconst (v := 0) hx hb dX6_adds_0 (by decide) ?_
  refine lv_istore_n (lv' := [(3, .int 0), (0, .ref (q 0)), (1, .int a1), (2, .int a2)]) hx hb dX6_adds_1 rfl hl (by decide) rfl (fun ls hl => ?_)
  refine lv_aload_n hx hb dX6_adds_2 rfl (lv_at hl 1 rfl) ?_
  refine va_get (ci := 6) (v := .ref (q 6)) (C := RX6) (T := TX6) (N := 26) hx hb hts inlX6 hown hE.1 hP 0 rfl rfl 6 (by decide) (hts _ wB85) (fun _ h9 => h9) rfl dX6_adds_3 ?_
  refine lv_iload_n hx hb dX6_adds_6 rfl (lv_at hl 2 rfl) ?_
  obtain ⟨hg7, hf⟩ := gd_s hf
  refine va_iald (f := (gR u 5)) hx hb hE.1 hP 6 0 rfl rfl hg7 dX6_adds_7 ?_
  refine lv_aload_n hx hb dX6_adds_8 rfl (lv_at hl 1 rfl) ?_
  refine va_get (ci := 6) (v := .ref (q 6)) (C := RX6) (T := TX6) (N := 26) hx hb hts inlX6 hown hE.1 hP 0 rfl rfl 6 (by decide) (hts _ wB85) (fun _ h9 => h9) rfl dX6_adds_9 ?_
  refine lv_iload_n hx hb dX6_adds_12 rfl (lv_at hl 3 rfl) ?_
  obtain ⟨hg13, hf⟩ := gd_s hf
  refine va_iald (f := (gR u 5)) hx hb hE.1 hP 6 0 rfl rfl hg13 dX6_adds_13 ?_
  refine lv_icmp_le (tgt := 26) hx hb dX6_adds_14 (by decide) (fun c14 => ?_) (fun c14 => ?_)
  · have hf := o_ip c14 hf
    refine lv_aload_n hx hb dX6_adds_26 rfl (lv_at hl 1 rfl) ?_
    refine va_get (ci := 6) (v := .ref (q 6)) (C := RX6) (T := TX6) (N := 26) hx hb hts inlX6 hown hE.1 hP 0 rfl rfl 6 (by decide) (hts _ wB85) (fun _ h9 => h9) rfl dX6_adds_27 ?_
    refine lv_iload_n hx hb dX6_adds_30 rfl (lv_at hl 3 rfl) ?_
    obtain ⟨hg31, hf⟩ := gd_s hf
    refine va_iald (f := (gR u 5)) hx hb hE.1 hP 6 0 rfl rfl hg31 dX6_adds_31 ?_
    refine lv_istore (lv' := [(4, .int ((gR u 5) (a2.toNatClampNeg))), (3, .int 0), (0, .ref (q 0)), (1, .int a1), (2, .int a2)]) hx hb dX6_adds_32 hl (by decide) rfl (fun ls hl => ?_)
    refine lv_iconst (v := 0) hx hb dX6_adds_34 (by decide) ?_
    refine lv_istore (lv' := [(5, .int 0), (4, .int ((gR u 5) (a2.toNatClampNeg))), (3, .int 0), (0, .ref (q 0)), (1, .int a1), (2, .int a2)]) hx hb dX6_adds_35 hl (by decide) rfl (fun ls hl => ?_)
    have L37 : ∀ (n37v : Nat) (s37 : Int32 × Int32 × KS) (e37 : (Int32 × KS)), lpO (mX6_adds_s37 a1 a2 ((gR u 5) (a2.toNatClampNeg))) n37v s37 = some e37 → ∀ (H : Heap) (locs : List Loc) (ls : Array Slot), va_P D vwCl (WM q cy s37.2.2 ++ rest) H → va_D A (WM q cy s37.2.2 ++ rest) → va_S A s.heap H locs → lv_has ls 7 [(0, .ref (q 0)), (1, .int a1), (2, .int a2), (3, .int s37.1), (4, .int ((gR u 5) (a2.toNatClampNeg))), (5, .int s37.2.1)] → (∀ (H : Heap) (locs : List Loc) (ls : Array Slot), va_P D vwCl (WM q cy e37.2 ++ rest) H → va_D A (WM q cy e37.2 ++ rest) → va_S A s.heap H locs → lv_has ls 7 [(0, .ref (q 0)), (1, .int a1), (3, .int e37.1), (4, .int ((gR u 5) (a2.toNatClampNeg)))] → W p l e rmX6_adds s m ([.ref (q 0), .int a1, .int a2] : List Value).toArray below meth c H locs 0 0 (MQ below (kQv D A (WM q cy res ++ rest)) ([.ref (q 0), .int a1, .int a2] : List Value).toArray s 0 0 A) (F0 m 102 ls [])) → W p l e rmX6_adds s m ([.ref (q 0), .int a1, .int a2] : List Value).toArray below meth c H locs 0 0 (MQ below (kQv D A (WM q cy res ++ rest)) ([.ref (q 0), .int a1, .int a2] : List Value).toArray s 0 0 A) (F0 m 37 ls []) := by
      intro n37v
      induction n37v with
      | zero => intro s37 e37 h; exact (lpO_z h).elim
      | succ n37v ih37 =>
        intro s37 e37 h37z H locs ls hP hD hS hl K37_0
        obtain ⟨x37, hf, h37z⟩ := lpO_s h37z
        unfold mX6_adds_s37 at hf
        refine lv_iload hx hb dX6_adds_37 (lv_at hl 5 rfl) ?_
        refine lv_iload hx hb dX6_adds_39 (lv_at hl 4 rfl) ?_
        refine lv_icmp_ge (tgt := 102) hx hb dX6_adds_41 (by decide) (fun c41 => ?_) (fun c41 => ?_)
        · have hf := o_ip c41 hf
          obtain rfl := o_ret hf
          obtain rfl := lpK_l h37z
          exact K37_0 _ _ _ hP hD hS (lv_sub hl [0, 1, 3, 4] rfl)
        · have hf := o_in c41 hf
          refine lv_aload_n hx hb dX6_adds_44 rfl (lv_at hl 0 rfl) ?_
          refine va_get (ci := 6) (v := .ref (q 5)) (C := RX6) (T := TX6) (N := 26) hx hb hts inlX6 hown hE.1 hP 0 rfl rfl 5 (by decide) (hts _ wB84) (fun _ h9 => h9) rfl dX6_adds_45 ?_
          refine lv_bipush (v := 12) hx hb dX6_adds_48 (by decide) ?_
          refine lv_iload_n hx hb dX6_adds_50 rfl (lv_at hl 1 rfl) ?_
          refine lv_imul hx hb dX6_adds_51 ?_
          refine lv_iload hx hb dX6_adds_52 (lv_at hl 5 rfl) ?_
          refine lv_iadd hx hb dX6_adds_54 ?_
          obtain ⟨hg55, hf⟩ := gd_s hf
          refine va_iald (f := (gR s37.2.2 4)) hx hb hE.1 hP 5 0 rfl rfl hg55 dX6_adds_55 ?_
          refine lv_aload_n hx hb dX6_adds_56 rfl (lv_at hl 0 rfl) ?_
          refine va_get (ci := 6) (v := .ref (q 5)) (C := RX6) (T := TX6) (N := 26) hx hb hts inlX6 hown hE.1 hP 0 rfl rfl 5 (by decide) (hts _ wB84) (fun _ h9 => h9) rfl dX6_adds_57 ?_
          refine lv_bipush (v := 12) hx hb dX6_adds_60 (by decide) ?_
          refine lv_iload_n hx hb dX6_adds_62 rfl (lv_at hl 2 rfl) ?_
          refine lv_imul hx hb dX6_adds_63 ?_
          refine lv_iload hx hb dX6_adds_64 (lv_at hl 5 rfl) ?_
          refine lv_iadd hx hb dX6_adds_66 ?_
          obtain ⟨hg67, hf⟩ := gd_s hf
          refine va_iald (f := (gR s37.2.2 4)) hx hb hE.1 hP 5 0 rfl rfl hg67 dX6_adds_67 ?_
          refine lv_iadd hx hb dX6_adds_68 ?_
          refine lv_iload_n hx hb dX6_adds_69 rfl (lv_at hl 3 rfl) ?_
          refine lv_iadd hx hb dX6_adds_70 ?_
          refine lv_istore (lv' := [(6, .int ((((gR s37.2.2 4) (((12 * a1) + s37.2.1).toNatClampNeg)) + ((gR s37.2.2 4) (((12 * a2) + s37.2.1).toNatClampNeg))) + s37.1)), (0, .ref (q 0)), (1, .int a1), (2, .int a2), (3, .int s37.1), (4, .int ((gR u 5) (a2.toNatClampNeg))), (5, .int s37.2.1)]) hx hb dX6_adds_71 hl (by decide) rfl (fun ls hl => ?_)
          refine lv_aload_n hx hb dX6_adds_73 rfl (lv_at hl 1 rfl) ?_
          refine va_get (ci := 6) (v := .ref (q 5)) (C := RX6) (T := TX6) (N := 26) hx hb hts inlX6 hown hE.1 hP 0 rfl rfl 5 (by decide) (hts _ wB84) (fun _ h9 => h9) rfl dX6_adds_74 ?_
          refine lv_bipush (v := 12) hx hb dX6_adds_77 (by decide) ?_
          refine lv_iload_n hx hb dX6_adds_79 rfl (lv_at hl 2 rfl) ?_
          refine lv_imul hx hb dX6_adds_80 ?_
          refine lv_iload hx hb dX6_adds_81 (lv_at hl 6 rfl) ?_
          refine lv_iadd hx hb dX6_adds_83 ?_
          refine lv_iload hx hb dX6_adds_84 (lv_at hl 0 rfl) ?_
          refine lv_ldc (v := 1073741823) hx hb hown (hts _ wB605) dX6_adds_86 ?_
          refine lv_iand hx hb dX6_adds_88 ?_
          obtain ⟨hg89, hf⟩ := gd_s hf
          refine va_iast (f := (gR s37.2.2 4)) hx hb hE.1 hP hD hS 5 0 rfl rfl hg89 dX6_adds_89 (fun H locs hP hD hS => ?_)
          have hP : va_P D vwCl (WM q cy (sR s37.2.2 4 (upd (gR s37.2.2 4) (((12 * a1) + s37.2.1).toNatClampNeg) (((((gR s37.2.2 4) (((12 * a1) + s37.2.1).toNatClampNeg)) + ((gR s37.2.2 4) (((12 * a2) + s37.2.1).toNatClampNeg))) + s37.1) &&& 1073741823))) ++ rest) H := hP
          have hD : va_D A (WM q cy (sR s37.2.2 4 (upd (gR s37.2.2 4) (((12 * a1) + s37.2.1).toNatClampNeg) (((((gR s37.2.2 4) (((12 * a1) + s37.2.1).toNatClampNeg)) + ((gR s37.2.2 4) (((12 * a2) + s37.2.1).toNatClampNeg))) + s37.1) &&& 1073741823))) ++ rest) := hD
          refine lv_iload hx hb dX6_adds_90 (lv_at hl 0 rfl) ?_
          refine lv_bipush (v := 30) hx hb dX6_adds_92 (by decide) ?_
          refine lv_iushr (v := (((((gR s37.2.2 4) (((12 * a1) + s37.2.1).toNatClampNeg)) + ((gR s37.2.2 4) (((12 * a2) + s37.2.1).toNatClampNeg))) + s37.1).toUInt32 >>> ((30 : Int32).toUInt32 &&& Int32.toUInt32 31)).toInt32) hx hb dX6_adds_94 rfl ?_
          refine lv_istore_n (lv' := [(3, .int ((((((gR s37.2.2 4) (((12 * a1) + s37.2.1).toNatClampNeg)) + ((gR s37.2.2 4) (((12 * a2) + s37.2.1).toNatClampNeg))) + s37.1).toUInt32 >>> ((30 : Int32).toUInt32 &&& Int32.toUInt32 31)).toInt32)), (6, .int ((((gR s37.2.2 4) (((12 * a1) + s37.2.1).toNatClampNeg)) + ((gR s37.2.2 4) (((12 * a2) + s37.2.1).toNatClampNeg))) + s37.1)), (0, .ref (q 0)), (1, .int a1), (2, .int a2), (4, .int ((gR u 5) (a2.toNatClampNeg))), (5, .int s37.2.1)]) hx hb dX6_adds_95 rfl hl (by decide) rfl (fun ls hl => ?_)
          refine lv_iinc (v := (s37.2.1 + 1)) (lv' := [(5, .int (s37.2.1 + 1)), (3, .int ((((((gR s37.2.2 4) (((12 * a1) + s37.2.1).toNatClampNeg)) + ((gR s37.2.2 4) (((12 * a2) + s37.2.1).toNatClampNeg))) + s37.1).toUInt32 >>> ((30 : Int32).toUInt32 &&& Int32.toUInt32 31)).toInt32)), (6, .int ((((gR s37.2.2 4) (((12 * a1) + s37.2.1).toNatClampNeg)) + ((gR s37.2.2 4) (((12 * a2) + s37.2.1).toNatClampNeg))) + s37.1)), (0, .ref (q 0)), (1, .int a1), (2, .int a2), (4, .int ((gR u 5) (a2.toNatClampNeg)))]) hx hb dX6_adds_96 hl (k := 6) rfl (by rfl) (by decide) rfl (fun ls hl => ?_)
          refine lv_goto (tgt := 37) hx hb dX6_adds_99 (by decide) ?_
          obtain rfl := o_ret hf
          exact ih37 _ _ (lpK_r h37z) _ _ _ hP hD hS (lv_sub hl [3, 4, 5, 1, 6, 0] rfl) K37_0
    obtain ⟨e37, h37q, hf⟩ := o_bs hf
    obtain ⟨n37v, h37q⟩ := lpF_ex h37q
    refine L37 n37v _ e37 h37q _ _ _ hP hD hS (lv_sub hl [3, 4, 5, 2, 1, 0] rfl) ?_
    intro H locs ls hP hD hS hl
    refine lv_aload_n hx hb dX6_adds_102 rfl (lv_at hl 0 rfl) ?_
    refine va_get (ci := 6) (v := .ref (q 5)) (C := RX6) (T := TX6) (N := 26) hx hb hts inlX6 hown hE.1 hP 0 rfl rfl 5 (by decide) (hts _ wB84) (fun _ h9 => h9) rfl dX6_adds_103 ?_
    refine lv_bipush (v := 12) hx hb dX6_adds_106 (by decide) ?_
    refine lv_iload_n hx hb dX6_adds_108 rfl (lv_at hl 1 rfl) ?_
    refine lv_imul hx hb dX6_adds_109 ?_
    refine lv_iload hx hb dX6_adds_110 (lv_at hl 3 rfl) ?_
    refine lv_iadd hx hb dX6_adds_112 ?_
    refine lv_iload_n hx hb dX6_adds_113 rfl (lv_at hl 2 rfl) ?_
    obtain ⟨hg114, hf⟩ := gd_s hf
    refine va_iast (f := (gR e37.2 4)) hx hb hE.1 hP hD hS 5 0 rfl rfl hg114 dX6_adds_114 (fun H locs hP hD hS => ?_)
    have hP : va_P D vwCl (WM q cy (sR e37.2 4 (upd (gR e37.2 4) (((12 * a1) + ((gR u 5) (a2.toNatClampNeg))).toNatClampNeg) e37.1)) ++ rest) H := hP
    have hD : va_D A (WM q cy (sR e37.2 4 (upd (gR e37.2 4) (((12 * a1) + ((gR u 5) (a2.toNatClampNeg))).toNatClampNeg) e37.1)) ++ rest) := hD
    refine lv_aload_n hx hb dX6_adds_115 rfl (lv_at hl 0 rfl) ?_
    refine va_get (ci := 6) (v := .ref (q 6)) (C := RX6) (T := TX6) (N := 26) hx hb hts inlX6 hown hE.1 hP 0 rfl rfl 6 (by decide) (hts _ wB85) (fun _ h9 => h9) rfl dX6_adds_116 ?_
    refine lv_iload_n hx hb dX6_adds_119 rfl (lv_at hl 1 rfl) ?_
    refine lv_iload hx hb dX6_adds_120 (lv_at hl 3 rfl) ?_
    refine lv_iload_n hx hb dX6_adds_122 rfl (lv_at hl 2 rfl) ?_
    refine lv_iadd hx hb dX6_adds_123 ?_
    obtain ⟨hg124, hf⟩ := gd_s hf
    refine va_iast (f := (gR e37.2 5)) hx hb hE.1 hP hD hS 6 0 rfl rfl hg124 dX6_adds_124 (fun H locs hP hD hS => ?_)
    have hQ := ((fun xb x0 xn => rfl : ∀ (xb : KS) (x0 : (Nat → Int32)) (xn : (Nat → Int32)), (WM q cy (sR xb 4 x0) ++ rest).set 6 (q 6, .inl (cy 0, 7, .inl xn)) = WM q cy (sR (sR xb 4 x0) 5 xn) ++ rest) e37.2 (upd (gR e37.2 4) (((12 * a1) + ((gR u 5) (a2.toNatClampNeg))).toNatClampNeg) e37.1) (upd (gR e37.2 5) (a1.toNatClampNeg) (((gR u 5) (a2.toNatClampNeg)) + e37.1)))
    have hP : va_P D vwCl (WM q cy (sR (sR e37.2 4 (upd (gR e37.2 4) (((12 * a1) + ((gR u 5) (a2.toNatClampNeg))).toNatClampNeg) e37.1)) 5 (upd (gR e37.2 5) (a1.toNatClampNeg) (((gR u 5) (a2.toNatClampNeg)) + e37.1))) ++ rest) H := k_wP hQ hP
    have hD : va_D A (WM q cy (sR (sR e37.2 4 (upd (gR e37.2 4) (((12 * a1) + ((gR u 5) (a2.toNatClampNeg))).toNatClampNeg) e37.1)) 5 (upd (gR e37.2 5) (a1.toNatClampNeg) (((gR u 5) (a2.toNatClampNeg)) + e37.1))) ++ rest) := k_wD hQ hD
    sorry
  · sorry
set_option maxRecDepth 100000 in
set_option maxHeartbeats 4000000 in
theorem zX6_adds_v26 (l : Launch) (D : va_G) (cy : Nat → ClassId) (sa : Nat → Nat) (q : Nat → Nat) (rest : va_W) (sz : Nat) (u : KS) (a1 : Int32) (a2 : Int32) (res : KS) (hf : mX6_adds u a1 a2 = some res) : kMv l yX6_adds (wsK yX6_adds cX6_adds 7 none) rmX6_adds D cy sa (WM q cy u ++ rest) sz [.ref (q 0), .int a1, .int a2] (WM q cy res ++ rest) 0 0 := by
  refine kM_of (Qc := fun A => kQv D A (WM q cy res ++ rest)) (cc := cX6_adds) (maxL := 7) (ret := none) (by decide) (Nat.le_of_ble_eq_true rfl) ?_
  intro p e s m below meth c A hx hb hml hr hts hown hlocks hin hA hP hD hS hE hsz ls hl
  have hown : s.vm.findClass RX6 = some m.cls := hown
  obtain ⟨H, hH0⟩ : ∃ H, H = s.heap := ⟨_, rfl⟩
  obtain ⟨locs, hlocs0⟩ : ∃ locs : List Loc, locs = [] := ⟨_, rfl⟩
  have hP : va_P D vwCl (WM q cy u ++ rest) H := by rw [hH0]; exact hP
  have hS : va_S A s.heap H locs := by rw [hH0, hlocs0]; exact hS
  have hl : lv_has ls 7 [(0, .ref (q 0)), (1, .int a1), (2, .int a2)] := hl
  suffices hgoal : W p l e rmX6_adds s m ([.ref (q 0), .int a1, .int a2] : List Value).toArray below meth c H locs 0 0 (MQ below (kQv D A (WM q cy res ++ rest)) ([.ref (q 0), .int a1, .int a2] : List Value).toArray s 0 0 A) (F0 m 0 ls []) by rw [hH0, hlocs0] at hgoal; exact hgoal
  clear hH0 hlocs0
  unfold mX6_adds at hf
  refine lv_iconst (v := 0) hx hb dX6_adds_0 (by decide) ?_
  refine lv_istore_n (lv' := [(3, .int 0), (0, .ref (q 0)), (1, .int a1), (2, .int a2)]) hx hb dX6_adds_1 rfl hl (by decide) rfl (fun ls hl => ?_)
  refine lv_aload_n hx hb dX6_adds_2 rfl (lv_at hl 1 rfl) ?_
  refine va_get (ci := 6) (v := .ref (q 6)) (C := RX6) (T := TX6) (N := 26) hx hb hts inlX6 hown hE.1 hP 0 rfl rfl 6 (by decide) (hts _ wB85) (fun _ h9 => h9) rfl dX6_adds_3 ?_
  refine lv_iload_n hx hb dX6_adds_6 rfl (lv_at hl 2 rfl) ?_
  obtain ⟨hg7, hf⟩ := gd_s hf
  refine va_iald (f := (gR u 5)) hx hb hE.1 hP 6 0 rfl rfl hg7 dX6_adds_7 ?_
  refine lv_aload_n hx hb dX6_adds_8 rfl (lv_at hl 1 rfl) ?_
  refine va_get (ci := 6) (v := .ref (q 6)) (C := RX6) (T := TX6) (N := 26) hx hb hts inlX6 hown hE.1 hP 0 rfl rfl 6 (by decide) (hts _ wB85) (fun _ h9 => h9) rfl dX6_adds_9 ?_
  refine lv_iload_n hx hb dX6_adds_12 rfl (lv_at hl 3 rfl) ?_
  obtain ⟨hg13, hf⟩ := gd_s hf
  refine va_iald (f := (gR u 5)) hx hb hE.1 hP 6 0 rfl rfl hg13 dX6_adds_13 ?_
  refine lv_icmp_le (tgt := 26) hx hb dX6_adds_14 (by decide) (fun c14 => ?_) (fun c14 => ?_)
  · have hf := o_ip c14 hf
    refine lv_aload_n hx hb dX6_adds_26 rfl (lv_at hl 1 rfl) ?_
    refine va_get (ci := 6) (v := .ref (q 6)) (C := RX6) (T := TX6) (N := 26) hx hb hts inlX6 hown hE.1 hP 0 rfl rfl 6 (by decide) (hts _ wB85) (fun _ h9 => h9) rfl dX6_adds_27 ?_
    refine lv_iload_n hx hb dX6_adds_30 rfl (lv_at hl 3 rfl) ?_
    obtain ⟨hg31, hf⟩ := gd_s hf
    refine va_iald (f := (gR u 5)) hx hb hE.1 hP 6 0 rfl rfl hg31 dX6_adds_31 ?_
    refine lv_istore (lv' := [(4, .int ((gR u 5) (a2.toNatClampNeg))), (3, .int 0), (0, .ref (q 0)), (1, .int a1), (2, .int a2)]) hx hb dX6_adds_32 hl (by decide) rfl (fun ls hl => ?_)
    refine lv_iconst (v := 0) hx hb dX6_adds_34 (by decide) ?_
    refine lv_istore (lv' := [(5, .int 0), (4, .int ((gR u 5) (a2.toNatClampNeg))), (3, .int 0), (0, .ref (q 0)), (1, .int a1), (2, .int a2)]) hx hb dX6_adds_35 hl (by decide) rfl (fun ls hl => ?_)
    have L37 : ∀ (n37v : Nat) (s37 : Int32 × Int32 × KS) (e37 : (Int32 × KS)), lpO (mX6_adds_s37 a1 a2 ((gR u 5) (a2.toNatClampNeg))) n37v s37 = some e37 → ∀ (H : Heap) (locs : List Loc) (ls : Array Slot), va_P D vwCl (WM q cy s37.2.2 ++ rest) H → va_D A (WM q cy s37.2.2 ++ rest) → va_S A s.heap H locs → lv_has ls 7 [(0, .ref (q 0)), (1, .int a1), (2, .int a2), (3, .int s37.1), (4, .int ((gR u 5) (a2.toNatClampNeg))), (5, .int s37.2.1)] → (∀ (H : Heap) (locs : List Loc) (ls : Array Slot), va_P D vwCl (WM q cy e37.2 ++ rest) H → va_D A (WM q cy e37.2 ++ rest) → va_S A s.heap H locs → lv_has ls 7 [(0, .ref (q 0)), (1, .int a1), (3, .int e37.1), (4, .int ((gR u 5) (a2.toNatClampNeg)))] → W p l e rmX6_adds s m ([.ref (q 0), .int a1, .int a2] : List Value).toArray below meth c H locs 0 0 (MQ below (kQv D A (WM q cy res ++ rest)) ([.ref (q 0), .int a1, .int a2] : List Value).toArray s 0 0 A) (F0 m 102 ls [])) → W p l e rmX6_adds s m ([.ref (q 0), .int a1, .int a2] : List Value).toArray below meth c H locs 0 0 (MQ below (kQv D A (WM q cy res ++ rest)) ([.ref (q 0), .int a1, .int a2] : List Value).toArray s 0 0 A) (F0 m 37 ls []) := by
      intro n37v
      induction n37v with
      | zero => intro s37 e37 h; exact (lpO_z h).elim
      | succ n37v ih37 =>
        intro s37 e37 h37z H locs ls hP hD hS hl K37_0
        obtain ⟨x37, hf, h37z⟩ := lpO_s h37z
        unfold mX6_adds_s37 at hf
        refine lv_iload hx hb dX6_adds_37 (lv_at hl 5 rfl) ?_
        refine lv_iload hx hb dX6_adds_39 (lv_at hl 4 rfl) ?_
        refine lv_icmp_ge (tgt := 102) hx hb dX6_adds_41 (by decide) (fun c41 => ?_) (fun c41 => ?_)
        · have hf := o_ip c41 hf
          obtain rfl := o_ret hf
          obtain rfl := lpK_l h37z
          exact K37_0 _ _ _ hP hD hS (lv_sub hl [0, 1, 3, 4] rfl)
        · have hf := o_in c41 hf
          refine lv_aload_n hx hb dX6_adds_44 rfl (lv_at hl 0 rfl) ?_
          refine va_get (ci := 6) (v := .ref (q 5)) (C := RX6) (T := TX6) (N := 26) hx hb hts inlX6 hown hE.1 hP 0 rfl rfl 5 (by decide) (hts _ wB84) (fun _ h9 => h9) rfl dX6_adds_45 ?_
          refine lv_bipush (v := 12) hx hb dX6_adds_48 (by decide) ?_
          refine lv_iload_n hx hb dX6_adds_50 rfl (lv_at hl 1 rfl) ?_
          refine lv_imul hx hb dX6_adds_51 ?_
          refine lv_iload hx hb dX6_adds_52 (lv_at hl 5 rfl) ?_
          refine lv_iadd hx hb dX6_adds_54 ?_
          obtain ⟨hg55, hf⟩ := gd_s hf
          refine va_iald (f := (gR s37.2.2 4)) hx hb hE.1 hP 5 0 rfl rfl hg55 dX6_adds_55 ?_
          refine lv_aload_n hx hb dX6_adds_56 rfl (lv_at hl 0 rfl) ?_
          refine va_get (ci := 6) (v := .ref (q 5)) (C := RX6) (T := TX6) (N := 26) hx hb hts inlX6 hown hE.1 hP 0 rfl rfl 5 (by decide) (hts _ wB84) (fun _ h9 => h9) rfl dX6_adds_57 ?_
          refine lv_bipush (v := 12) hx hb dX6_adds_60 (by decide) ?_
          refine lv_iload_n hx hb dX6_adds_62 rfl (lv_at hl 2 rfl) ?_
          refine lv_imul hx hb dX6_adds_63 ?_
          refine lv_iload hx hb dX6_adds_64 (lv_at hl 5 rfl) ?_
          refine lv_iadd hx hb dX6_adds_66 ?_
          obtain ⟨hg67, hf⟩ := gd_s hf
          refine va_iald (f := (gR s37.2.2 4)) hx hb hE.1 hP 5 0 rfl rfl hg67 dX6_adds_67 ?_
          refine lv_iadd hx hb dX6_adds_68 ?_
          refine lv_iload_n hx hb dX6_adds_69 rfl (lv_at hl 3 rfl) ?_
          refine lv_iadd hx hb dX6_adds_70 ?_
          refine lv_istore (lv' := [(6, .int ((((gR s37.2.2 4) (((12 * a1) + s37.2.1).toNatClampNeg)) + ((gR s37.2.2 4) (((12 * a2) + s37.2.1).toNatClampNeg))) + s37.1)), (0, .ref (q 0)), (1, .int a1), (2, .int a2), (3, .int s37.1), (4, .int ((gR u 5) (a2.toNatClampNeg))), (5, .int s37.2.1)]) hx hb dX6_adds_71 hl (by decide) rfl (fun ls hl => ?_)
          refine lv_aload_n hx hb dX6_adds_73 rfl (lv_at hl 1 rfl) ?_
          refine va_get (ci := 6) (v := .ref (q 5)) (C := RX6) (T := TX6) (N := 26) hx hb hts inlX6 hown hE.1 hP 0 rfl rfl 5 (by decide) (hts _ wB84) (fun _ h9 => h9) rfl dX6_adds_74 ?_
          refine lv_bipush (v := 12) hx hb dX6_adds_77 (by decide) ?_
          refine lv_iload_n hx hb dX6_adds_79 rfl (lv_at hl 2 rfl) ?_
          refine lv_imul hx hb dX6_adds_80 ?_
          refine lv_iload hx hb dX6_adds_81 (lv_at hl 6 rfl) ?_
          refine lv_iadd hx hb dX6_adds_83 ?_
          refine lv_iload hx hb dX6_adds_84 (lv_at hl 0 rfl) ?_
          refine lv_ldc (v := 1073741823) hx hb hown (hts _ wB605) dX6_adds_86 ?_
          refine lv_iand hx hb dX6_adds_88 ?_
          obtain ⟨hg89, hf⟩ := gd_s hf
          refine va_iast (f := (gR s37.2.2 4)) hx hb hE.1 hP hD hS 5 0 rfl rfl hg89 dX6_adds_89 (fun H locs hP hD hS => ?_)
          have hP : va_P D vwCl (WM q cy (sR s37.2.2 4 (upd (gR s37.2.2 4) (((12 * a1) + s37.2.1).toNatClampNeg) (((((gR s37.2.2 4) (((12 * a1) + s37.2.1).toNatClampNeg)) + ((gR s37.2.2 4) (((12 * a2) + s37.2.1).toNatClampNeg))) + s37.1) &&& 1073741823))) ++ rest) H := hP
          have hD : va_D A (WM q cy (sR s37.2.2 4 (upd (gR s37.2.2 4) (((12 * a1) + s37.2.1).toNatClampNeg) (((((gR s37.2.2 4) (((12 * a1) + s37.2.1).toNatClampNeg)) + ((gR s37.2.2 4) (((12 * a2) + s37.2.1).toNatClampNeg))) + s37.1) &&& 1073741823))) ++ rest) := hD
          refine lv_iload hx hb dX6_adds_90 (lv_at hl 0 rfl) ?_
          refine lv_bipush (v := 30) hx hb dX6_adds_92 (by decide) ?_
          refine lv_iushr (v := (((((gR s37.2.2 4) (((12 * a1) + s37.2.1).toNatClampNeg)) + ((gR s37.2.2 4) (((12 * a2) + s37.2.1).toNatClampNeg))) + s37.1).toUInt32 >>> ((30 : Int32).toUInt32 &&& Int32.toUInt32 31)).toInt32) hx hb dX6_adds_94 rfl ?_
          refine lv_istore_n (lv' := [(3, .int ((((((gR s37.2.2 4) (((12 * a1) + s37.2.1).toNatClampNeg)) + ((gR s37.2.2 4) (((12 * a2) + s37.2.1).toNatClampNeg))) + s37.1).toUInt32 >>> ((30 : Int32).toUInt32 &&& Int32.toUInt32 31)).toInt32)), (6, .int ((((gR s37.2.2 4) (((12 * a1) + s37.2.1).toNatClampNeg)) + ((gR s37.2.2 4) (((12 * a2) + s37.2.1).toNatClampNeg))) + s37.1)), (0, .ref (q 0)), (1, .int a1), (2, .int a2), (4, .int ((gR u 5) (a2.toNatClampNeg))), (5, .int s37.2.1)]) hx hb dX6_adds_95 rfl hl (by decide) rfl (fun ls hl => ?_)
          refine lv_iinc (v := (s37.2.1 + 1)) (lv' := [(5, .int (s37.2.1 + 1)), (3, .int ((((((gR s37.2.2 4) (((12 * a1) + s37.2.1).toNatClampNeg)) + ((gR s37.2.2 4) (((12 * a2) + s37.2.1).toNatClampNeg))) + s37.1).toUInt32 >>> ((30 : Int32).toUInt32 &&& Int32.toUInt32 31)).toInt32)), (6, .int ((((gR s37.2.2 4) (((12 * a1) + s37.2.1).toNatClampNeg)) + ((gR s37.2.2 4) (((12 * a2) + s37.2.1).toNatClampNeg))) + s37.1)), (0, .ref (q 0)), (1, .int a1), (2, .int a2), (4, .int ((gR u 5) (a2.toNatClampNeg)))]) hx hb dX6_adds_96 hl (k := 6) rfl (by rfl) (by decide) rfl (fun ls hl => ?_)
          refine lv_goto (tgt := 37) hx hb dX6_adds_99 (by decide) ?_
          obtain rfl := o_ret hf
          exact ih37 _ _ (lpK_r h37z) _ _ _ hP hD hS (lv_sub hl [3, 4, 5, 1, 6, 0] rfl) K37_0
    obtain ⟨e37, h37q, hf⟩ := o_bs hf
    obtain ⟨n37v, h37q⟩ := lpF_ex h37q
    refine L37 n37v _ e37 h37q _ _ _ hP hD hS (lv_sub hl [3, 4, 5, 2, 1, 0] rfl) ?_
    intro H locs ls hP hD hS hl
    refine lv_aload_n hx hb dX6_adds_102 rfl (lv_at hl 0 rfl) ?_
    refine va_get (ci := 6) (v := .ref (q 5)) (C := RX6) (T := TX6) (N := 26) hx hb hts inlX6 hown hE.1 hP 0 rfl rfl 5 (by decide) (hts _ wB84) (fun _ h9 => h9) rfl dX6_adds_103 ?_
    refine lv_bipush (v := 12) hx hb dX6_adds_106 (by decide) ?_
    refine lv_iload_n hx hb dX6_adds_108 rfl (lv_at hl 1 rfl) ?_
    refine lv_imul hx hb dX6_adds_109 ?_
    refine lv_iload hx hb dX6_adds_110 (lv_at hl 3 rfl) ?_
    refine lv_iadd hx hb dX6_adds_112 ?_
    refine lv_iload_n hx hb dX6_adds_113 rfl (lv_at hl 2 rfl) ?_
    obtain ⟨hg114, hf⟩ := gd_s hf
    refine va_iast (f := (gR e37.2 4)) hx hb hE.1 hP hD hS 5 0 rfl rfl hg114 dX6_adds_114 (fun H locs hP hD hS => ?_)
    have hP : va_P D vwCl (WM q cy (sR e37.2 4 (upd (gR e37.2 4) (((12 * a1) + ((gR u 5) (a2.toNatClampNeg))).toNatClampNeg) e37.1)) ++ rest) H := hP
    have hD : va_D A (WM q cy (sR e37.2 4 (upd (gR e37.2 4) (((12 * a1) + ((gR u 5) (a2.toNatClampNeg))).toNatClampNeg) e37.1)) ++ rest) := hD
    refine lv_aload_n hx hb dX6_adds_115 rfl (lv_at hl 0 rfl) ?_
    refine va_get (ci := 6) (v := .ref (q 6)) (C := RX6) (T := TX6) (N := 26) hx hb hts inlX6 hown hE.1 hP 0 rfl rfl 6 (by decide) (hts _ wB85) (fun _ h9 => h9) rfl dX6_adds_116 ?_
    refine lv_iload_n hx hb dX6_adds_119 rfl (lv_at hl 1 rfl) ?_
    refine lv_iload hx hb dX6_adds_120 (lv_at hl 3 rfl) ?_
    refine lv_iload_n hx hb dX6_adds_122 rfl (lv_at hl 2 rfl) ?_
    refine lv_iadd hx hb dX6_adds_123 ?_
    obtain ⟨hg124, hf⟩ := gd_s hf
    refine va_iast (f := (gR e37.2 5)) hx hb hE.1 hP hD hS 6 0 rfl rfl hg124 dX6_adds_124 (fun H locs hP hD hS => ?_)
    have hQ := ((fun xb x0 xn => rfl : ∀ (xb : KS) (x0 : (Nat → Int32)) (xn : (Nat → Int32)), (WM q cy (sR xb 4 x0) ++ rest).set 6 (q 6, .inl (cy 0, 7, .inl xn)) = WM q cy (sR (sR xb 4 x0) 5 xn) ++ rest) e37.2 (upd (gR e37.2 4) (((12 * a1) + ((gR u 5) (a2.toNatClampNeg))).toNatClampNeg) e37.1) (upd (gR e37.2 5) (a1.toNatClampNeg) (((gR u 5) (a2.toNatClampNeg)) + e37.1)))
    have hP : va_P D vwCl (WM q cy (sR (sR e37.2 4 (upd (gR e37.2 4) (((12 * a1) + ((gR u 5) (a2.toNatClampNeg))).toNatClampNeg) e37.1)) 5 (upd (gR e37.2 5) (a1.toNatClampNeg) (((gR u 5) (a2.toNatClampNeg)) + e37.1))) ++ rest) H := k_wP hQ hP
    have hD : va_D A (WM q cy (sR (sR e37.2 4 (upd (gR e37.2 4) (((12 * a1) + ((gR u 5) (a2.toNatClampNeg))).toNatClampNeg) e37.1)) 5 (upd (gR e37.2 5) (a1.toNatClampNeg) (((gR u 5) (a2.toNatClampNeg)) + e37.1))) ++ rest) := k_wD hQ hD
    clear hQ
    sorry
  · sorry
set_option maxRecDepth 100000 in
set_option maxHeartbeats 4000000 in
theorem zX6_adds_v27 (l : Launch) (D : va_G) (cy : Nat → ClassId) (sa : Nat → Nat) (q : Nat → Nat) (rest : va_W) (sz : Nat) (u : KS) (a1 : Int32) (a2 : Int32) (res : KS) (hf : mX6_adds u a1 a2 = some res) : kMv l yX6_adds (wsK yX6_adds cX6_adds 7 none) rmX6_adds D cy sa (WM q cy u ++ rest) sz [.ref (q 0), .int a1, .int a2] (WM q cy res ++ rest) 0 0 := by
  refine kM_of (Qc := fun A => kQv D A (WM q cy res ++ rest)) (cc := cX6_adds) (maxL := 7) (ret := none) (by decide) (Nat.le_of_ble_eq_true rfl) ?_
  intro p e s m below meth c A hx hb hml hr hts hown hlocks hin hA hP hD hS hE hsz ls hl
  have hown : s.vm.findClass RX6 = some m.cls := hown
  obtain ⟨H, hH0⟩ : ∃ H, H = s.heap := ⟨_, rfl⟩
  obtain ⟨locs, hlocs0⟩ : ∃ locs : List Loc, locs = [] := ⟨_, rfl⟩
  have hP : va_P D vwCl (WM q cy u ++ rest) H := by rw [hH0]; exact hP
  have hS : va_S A s.heap H locs := by rw [hH0, hlocs0]; exact hS
  have hl : lv_has ls 7 [(0, .ref (q 0)), (1, .int a1), (2, .int a2)] := hl
  suffices hgoal : W p l e rmX6_adds s m ([.ref (q 0), .int a1, .int a2] : List Value).toArray below meth c H locs 0 0 (MQ below (kQv D A (WM q cy res ++ rest)) ([.ref (q 0), .int a1, .int a2] : List Value).toArray s 0 0 A) (F0 m 0 ls []) by rw [hH0, hlocs0] at hgoal; exact hgoal
  clear hH0 hlocs0
  unfold mX6_adds at hf
  refine lv_iconst (v := 0) hx hb dX6_adds_0 (by decide) ?_
  refine lv_istore_n (lv' := [(3, .int 0), (0, .ref (q 0)), (1, .int a1), (2, .int a2)]) hx hb dX6_adds_1 rfl hl (by decide) rfl (fun ls hl => ?_)
  refine lv_aload_n hx hb dX6_adds_2 rfl (lv_at hl 1 rfl) ?_
  refine va_get (ci := 6) (v := .ref (q 6)) (C := RX6) (T := TX6) (N := 26) hx hb hts inlX6 hown hE.1 hP 0 rfl rfl 6 (by decide) (hts _ wB85) (fun _ h9 => h9) rfl dX6_adds_3 ?_
  refine lv_iload_n hx hb dX6_adds_6 rfl (lv_at hl 2 rfl) ?_
  obtain ⟨hg7, hf⟩ := gd_s hf
  refine va_iald (f := (gR u 5)) hx hb hE.1 hP 6 0 rfl rfl hg7 dX6_adds_7 ?_
  refine lv_aload_n hx hb dX6_adds_8 rfl (lv_at hl 1 rfl) ?_
  refine va_get (ci := 6) (v := .ref (q 6)) (C := RX6) (T := TX6) (N := 26) hx hb hts inlX6 hown hE.1 hP 0 rfl rfl 6 (by decide) (hts _ wB85) (fun _ h9 => h9) rfl dX6_adds_9 ?_
  refine lv_iload_n hx hb dX6_adds_12 rfl (lv_at hl 3 rfl) ?_
  obtain ⟨hg13, hf⟩ := gd_s hf
  refine va_iald (f := (gR u 5)) hx hb hE.1 hP 6 0 rfl rfl hg13 dX6_adds_13 ?_
  refine lv_icmp_le (tgt := 26) hx hb dX6_adds_14 (by decide) (fun c14 => ?_) (fun c14 => ?_)
  · have hf := o_ip c14 hf
    refine lv_aload_n hx hb dX6_adds_26 rfl (lv_at hl 1 rfl) ?_
    refine va_get (ci := 6) (v := .ref (q 6)) (C := RX6) (T := TX6) (N := 26) hx hb hts inlX6 hown hE.1 hP 0 rfl rfl 6 (by decide) (hts _ wB85) (fun _ h9 => h9) rfl dX6_adds_27 ?_
    refine lv_iload_n hx hb dX6_adds_30 rfl (lv_at hl 3 rfl) ?_
    obtain ⟨hg31, hf⟩ := gd_s hf
    refine va_iald (f := (gR u 5)) hx hb hE.1 hP 6 0 rfl rfl hg31 dX6_adds_31 ?_
    refine lv_istore (lv' := [(4, .int ((gR u 5) (a2.toNatClampNeg))), (3, .int 0), (0, .ref (q 0)), (1, .int a1), (2, .int a2)]) hx hb dX6_adds_32 hl (by decide) rfl (fun ls hl => ?_)
    refine lv_iconst (v := 0) hx hb dX6_adds_34 (by decide) ?_
    refine lv_istore (lv' := [(5, .int 0), (4, .int ((gR u 5) (a2.toNatClampNeg))), (3, .int 0), (0, .ref (q 0)), (1, .int a1), (2, .int a2)]) hx hb dX6_adds_35 hl (by decide) rfl (fun ls hl => ?_)
    have L37 : ∀ (n37v : Nat) (s37 : Int32 × Int32 × KS) (e37 : (Int32 × KS)), lpO (mX6_adds_s37 a1 a2 ((gR u 5) (a2.toNatClampNeg))) n37v s37 = some e37 → ∀ (H : Heap) (locs : List Loc) (ls : Array Slot), va_P D vwCl (WM q cy s37.2.2 ++ rest) H → va_D A (WM q cy s37.2.2 ++ rest) → va_S A s.heap H locs → lv_has ls 7 [(0, .ref (q 0)), (1, .int a1), (2, .int a2), (3, .int s37.1), (4, .int ((gR u 5) (a2.toNatClampNeg))), (5, .int s37.2.1)] → (∀ (H : Heap) (locs : List Loc) (ls : Array Slot), va_P D vwCl (WM q cy e37.2 ++ rest) H → va_D A (WM q cy e37.2 ++ rest) → va_S A s.heap H locs → lv_has ls 7 [(0, .ref (q 0)), (1, .int a1), (3, .int e37.1), (4, .int ((gR u 5) (a2.toNatClampNeg)))] → W p l e rmX6_adds s m ([.ref (q 0), .int a1, .int a2] : List Value).toArray below meth c H locs 0 0 (MQ below (kQv D A (WM q cy res ++ rest)) ([.ref (q 0), .int a1, .int a2] : List Value).toArray s 0 0 A) (F0 m 102 ls [])) → W p l e rmX6_adds s m ([.ref (q 0), .int a1, .int a2] : List Value).toArray below meth c H locs 0 0 (MQ below (kQv D A (WM q cy res ++ rest)) ([.ref (q 0), .int a1, .int a2] : List Value).toArray s 0 0 A) (F0 m 37 ls []) := by
      intro n37v
      induction n37v with
      | zero => intro s37 e37 h; exact (lpO_z h).elim
      | succ n37v ih37 =>
        intro s37 e37 h37z H locs ls hP hD hS hl K37_0
        obtain ⟨x37, hf, h37z⟩ := lpO_s h37z
        unfold mX6_adds_s37 at hf
        refine lv_iload hx hb dX6_adds_37 (lv_at hl 5 rfl) ?_
        refine lv_iload hx hb dX6_adds_39 (lv_at hl 4 rfl) ?_
        refine lv_icmp_ge (tgt := 102) hx hb dX6_adds_41 (by decide) (fun c41 => ?_) (fun c41 => ?_)
        · have hf := o_ip c41 hf
          obtain rfl := o_ret hf
          obtain rfl := lpK_l h37z
          exact K37_0 _ _ _ hP hD hS (lv_sub hl [0, 1, 3, 4] rfl)
        · have hf := o_in c41 hf
          refine lv_aload_n hx hb dX6_adds_44 rfl (lv_at hl 0 rfl) ?_
          refine va_get (ci := 6) (v := .ref (q 5)) (C := RX6) (T := TX6) (N := 26) hx hb hts inlX6 hown hE.1 hP 0 rfl rfl 5 (by decide) (hts _ wB84) (fun _ h9 => h9) rfl dX6_adds_45 ?_
          refine lv_bipush (v := 12) hx hb dX6_adds_48 (by decide) ?_
          refine lv_iload_n hx hb dX6_adds_50 rfl (lv_at hl 1 rfl) ?_
          refine lv_imul hx hb dX6_adds_51 ?_
          refine lv_iload hx hb dX6_adds_52 (lv_at hl 5 rfl) ?_
          refine lv_iadd hx hb dX6_adds_54 ?_
          obtain ⟨hg55, hf⟩ := gd_s hf
          refine va_iald (f := (gR s37.2.2 4)) hx hb hE.1 hP 5 0 rfl rfl hg55 dX6_adds_55 ?_
          refine lv_aload_n hx hb dX6_adds_56 rfl (lv_at hl 0 rfl) ?_
          refine va_get (ci := 6) (v := .ref (q 5)) (C := RX6) (T := TX6) (N := 26) hx hb hts inlX6 hown hE.1 hP 0 rfl rfl 5 (by decide) (hts _ wB84) (fun _ h9 => h9) rfl dX6_adds_57 ?_
          refine lv_bipush (v := 12) hx hb dX6_adds_60 (by decide) ?_
          refine lv_iload_n hx hb dX6_adds_62 rfl (lv_at hl 2 rfl) ?_
          refine lv_imul hx hb dX6_adds_63 ?_
          refine lv_iload hx hb dX6_adds_64 (lv_at hl 5 rfl) ?_
          refine lv_iadd hx hb dX6_adds_66 ?_
          obtain ⟨hg67, hf⟩ := gd_s hf
          refine va_iald (f := (gR s37.2.2 4)) hx hb hE.1 hP 5 0 rfl rfl hg67 dX6_adds_67 ?_
          refine lv_iadd hx hb dX6_adds_68 ?_
          refine lv_iload_n hx hb dX6_adds_69 rfl (lv_at hl 3 rfl) ?_
          refine lv_iadd hx hb dX6_adds_70 ?_
          refine lv_istore (lv' := [(6, .int ((((gR s37.2.2 4) (((12 * a1) + s37.2.1).toNatClampNeg)) + ((gR s37.2.2 4) (((12 * a2) + s37.2.1).toNatClampNeg))) + s37.1)), (0, .ref (q 0)), (1, .int a1), (2, .int a2), (3, .int s37.1), (4, .int ((gR u 5) (a2.toNatClampNeg))), (5, .int s37.2.1)]) hx hb dX6_adds_71 hl (by decide) rfl (fun ls hl => ?_)
          refine lv_aload_n hx hb dX6_adds_73 rfl (lv_at hl 1 rfl) ?_
          refine va_get (ci := 6) (v := .ref (q 5)) (C := RX6) (T := TX6) (N := 26) hx hb hts inlX6 hown hE.1 hP 0 rfl rfl 5 (by decide) (hts _ wB84) (fun _ h9 => h9) rfl dX6_adds_74 ?_
          refine lv_bipush (v := 12) hx hb dX6_adds_77 (by decide) ?_
          refine lv_iload_n hx hb dX6_adds_79 rfl (lv_at hl 2 rfl) ?_
          refine lv_imul hx hb dX6_adds_80 ?_
          refine lv_iload hx hb dX6_adds_81 (lv_at hl 6 rfl) ?_
          refine lv_iadd hx hb dX6_adds_83 ?_
          refine lv_iload hx hb dX6_adds_84 (lv_at hl 0 rfl) ?_
          refine lv_ldc (v := 1073741823) hx hb hown (hts _ wB605) dX6_adds_86 ?_
          refine lv_iand hx hb dX6_adds_88 ?_
          obtain ⟨hg89, hf⟩ := gd_s hf
          refine va_iast (f := (gR s37.2.2 4)) hx hb hE.1 hP hD hS 5 0 rfl rfl hg89 dX6_adds_89 (fun H locs hP hD hS => ?_)
          have hP : va_P D vwCl (WM q cy (sR s37.2.2 4 (upd (gR s37.2.2 4) (((12 * a1) + s37.2.1).toNatClampNeg) (((((gR s37.2.2 4) (((12 * a1) + s37.2.1).toNatClampNeg)) + ((gR s37.2.2 4) (((12 * a2) + s37.2.1).toNatClampNeg))) + s37.1) &&& 1073741823))) ++ rest) H := hP
          have hD : va_D A (WM q cy (sR s37.2.2 4 (upd (gR s37.2.2 4) (((12 * a1) + s37.2.1).toNatClampNeg) (((((gR s37.2.2 4) (((12 * a1) + s37.2.1).toNatClampNeg)) + ((gR s37.2.2 4) (((12 * a2) + s37.2.1).toNatClampNeg))) + s37.1) &&& 1073741823))) ++ rest) := hD
          refine lv_iload hx hb dX6_adds_90 (lv_at hl 0 rfl) ?_
          refine lv_bipush (v := 30) hx hb dX6_adds_92 (by decide) ?_
          refine lv_iushr (v := (((((gR s37.2.2 4) (((12 * a1) + s37.2.1).toNatClampNeg)) + ((gR s37.2.2 4) (((12 * a2) + s37.2.1).toNatClampNeg))) + s37.1).toUInt32 >>> ((30 : Int32).toUInt32 &&& Int32.toUInt32 31)).toInt32) hx hb dX6_adds_94 rfl ?_
          refine lv_istore_n (lv' := [(3, .int ((((((gR s37.2.2 4) (((12 * a1) + s37.2.1).toNatClampNeg)) + ((gR s37.2.2 4) (((12 * a2) + s37.2.1).toNatClampNeg))) + s37.1).toUInt32 >>> ((30 : Int32).toUInt32 &&& Int32.toUInt32 31)).toInt32)), (6, .int ((((gR s37.2.2 4) (((12 * a1) + s37.2.1).toNatClampNeg)) + ((gR s37.2.2 4) (((12 * a2) + s37.2.1).toNatClampNeg))) + s37.1)), (0, .ref (q 0)), (1, .int a1), (2, .int a2), (4, .int ((gR u 5) (a2.toNatClampNeg))), (5, .int s37.2.1)]) hx hb dX6_adds_95 rfl hl (by decide) rfl (fun ls hl => ?_)
          refine lv_iinc (v := (s37.2.1 + 1)) (lv' := [(5, .int (s37.2.1 + 1)), (3, .int ((((((gR s37.2.2 4) (((12 * a1) + s37.2.1).toNatClampNeg)) + ((gR s37.2.2 4) (((12 * a2) + s37.2.1).toNatClampNeg))) + s37.1).toUInt32 >>> ((30 : Int32).toUInt32 &&& Int32.toUInt32 31)).toInt32)), (6, .int ((((gR s37.2.2 4) (((12 * a1) + s37.2.1).toNatClampNeg)) + ((gR s37.2.2 4) (((12 * a2) + s37.2.1).toNatClampNeg))) + s37.1)), (0, .ref (q 0)), (1, .int a1), (2, .int a2), (4, .int ((gR u 5) (a2.toNatClampNeg)))]) hx hb dX6_adds_96 hl (k := 6) rfl (by rfl) (by decide) rfl (fun ls hl => ?_)
          refine lv_goto (tgt := 37) hx hb dX6_adds_99 (by decide) ?_
          obtain rfl := o_ret hf
          exact ih37 _ _ (lpK_r h37z) _ _ _ hP hD hS (lv_sub hl [3, 4, 5, 1, 6, 0] rfl) K37_0
    obtain ⟨e37, h37q, hf⟩ := o_bs hf
    obtain ⟨n37v, h37q⟩ := lpF_ex h37q
    refine L37 n37v _ e37 h37q _ _ _ hP hD hS (lv_sub hl [3, 4, 5, 2, 1, 0] rfl) ?_
    intro H locs ls hP hD hS hl
    refine lv_aload_n hx hb dX6_adds_102 rfl (lv_at hl 0 rfl) ?_
    refine va_get (ci := 6) (v := .ref (q 5)) (C := RX6) (T := TX6) (N := 26) hx hb hts inlX6 hown hE.1 hP 0 rfl rfl 5 (by decide) (hts _ wB84) (fun _ h9 => h9) rfl dX6_adds_103 ?_
    refine lv_bipush (v := 12) hx hb dX6_adds_106 (by decide) ?_
    refine lv_iload_n hx hb dX6_adds_108 rfl (lv_at hl 1 rfl) ?_
    refine lv_imul hx hb dX6_adds_109 ?_
    refine lv_iload hx hb dX6_adds_110 (lv_at hl 3 rfl) ?_
    refine lv_iadd hx hb dX6_adds_112 ?_
    refine lv_iload_n hx hb dX6_adds_113 rfl (lv_at hl 2 rfl) ?_
    obtain ⟨hg114, hf⟩ := gd_s hf
    refine va_iast (f := (gR e37.2 4)) hx hb hE.1 hP hD hS 5 0 rfl rfl hg114 dX6_adds_114 (fun H locs hP hD hS => ?_)
    have hP : va_P D vwCl (WM q cy (sR e37.2 4 (upd (gR e37.2 4) (((12 * a1) + ((gR u 5) (a2.toNatClampNeg))).toNatClampNeg) e37.1)) ++ rest) H := hP
    have hD : va_D A (WM q cy (sR e37.2 4 (upd (gR e37.2 4) (((12 * a1) + ((gR u 5) (a2.toNatClampNeg))).toNatClampNeg) e37.1)) ++ rest) := hD
    refine lv_aload_n hx hb dX6_adds_115 rfl (lv_at hl 0 rfl) ?_
    refine va_get (ci := 6) (v := .ref (q 6)) (C := RX6) (T := TX6) (N := 26) hx hb hts inlX6 hown hE.1 hP 0 rfl rfl 6 (by decide) (hts _ wB85) (fun _ h9 => h9) rfl dX6_adds_116 ?_
    refine lv_iload_n hx hb dX6_adds_119 rfl (lv_at hl 1 rfl) ?_
    refine lv_iload hx hb dX6_adds_120 (lv_at hl 3 rfl) ?_
    refine lv_iload_n hx hb dX6_adds_122 rfl (lv_at hl 2 rfl) ?_
    refine lv_iadd hx hb dX6_adds_123 ?_
    obtain ⟨hg124, hf⟩ := gd_s hf
    refine va_iast (f := (gR e37.2 5)) hx hb hE.1 hP hD hS 6 0 rfl rfl hg124 dX6_adds_124 (fun H locs hP hD hS => ?_)
    have hQ := ((fun xb x0 xn => rfl : ∀ (xb : KS) (x0 : (Nat → Int32)) (xn : (Nat → Int32)), (WM q cy (sR xb 4 x0) ++ rest).set 6 (q 6, .inl (cy 0, 7, .inl xn)) = WM q cy (sR (sR xb 4 x0) 5 xn) ++ rest) e37.2 (upd (gR e37.2 4) (((12 * a1) + ((gR u 5) (a2.toNatClampNeg))).toNatClampNeg) e37.1) (upd (gR e37.2 5) (a1.toNatClampNeg) (((gR u 5) (a2.toNatClampNeg)) + e37.1)))
    have hP : va_P D vwCl (WM q cy (sR (sR e37.2 4 (upd (gR e37.2 4) (((12 * a1) + ((gR u 5) (a2.toNatClampNeg))).toNatClampNeg) e37.1)) 5 (upd (gR e37.2 5) (a1.toNatClampNeg) (((gR u 5) (a2.toNatClampNeg)) + e37.1))) ++ rest) H := k_wP hQ hP
    have hD : va_D A (WM q cy (sR (sR e37.2 4 (upd (gR e37.2 4) (((12 * a1) + ((gR u 5) (a2.toNatClampNeg))).toNatClampNeg) e37.1)) 5 (upd (gR e37.2 5) (a1.toNatClampNeg) (((gR u 5) (a2.toNatClampNeg)) + e37.1))) ++ rest) := k_wD hQ hD
    clear hQ
    refine lv_aload_n hx hb dX6_adds_125 rfl (lv_at hl 0 rfl) ?_
    sorry
  · sorry
