/-- the addresses with the row's at place 27 -/
def qx (q : Nat → Nat) (t : Nat) : Nat → Nat := fun i => if i = 27 then t else q i
theorem k_qxP {D : va_G} {q : Nat → Nat} {t : Nat} {cy : Nat → ClassId} {u : KS} {f : Nat → Int32} {rest : va_W} {H : Heap} (h : va_P D vwCl (WX q cy u ++ ((t, .inl (cy 0, 64, .inl f)) :: rest)) H) : va_P D vwCl (WXR (qx q t) cy (sR u 20 f) ++ rest) H := h
theorem k_qxD {A : Nat → Prop} {q : Nat → Nat} {t : Nat} {cy : Nat → ClassId} {u : KS} {f : Nat → Int32} {rest : va_W} (h : va_D A (WX q cy u ++ ((t, .inl (cy 0, 64, .inl f)) :: rest))) : va_D A (WXR (qx q t) cy (sR u 20 f) ++ rest) := h
noncomputable def mL_day_s18_j232 (sa : Nat → Nat) (ju232 : KS) (j232_2 : Int32) (j232_4 : Int32) (j232_5 : Int32) : Option ((KS) ⊕ (Int32 × KS)) :=
  some (.inr ((j232_5 + 1), ju232))
noncomputable def mL_day_s92_j124 (sa : Nat → Nat) (ju124 : KS) (j124_2 : Int32) (j124_4 : Int32) (j124_5 : Int32) (j124_6 : Int32) (j124_7 : Int32) (j124_8 : Int32) (j124_9 : Int32) (j124_t0 : Int32) (j124_t1 : Int32) : Option ((KS) ⊕ (Int32 × KS)) :=
  gd (inb j124_t1 64) (some (.inr ((j124_9 + 1), (sR ju124 20 (upd (upd (gR ju124 20) (j124_t1.toNatClampNeg) j124_t0) ((63 : Int32).toNatClampNeg) (((upd (gR ju124 20) (j124_t1.toNatClampNeg) j124_t0) ((63 : Int32).toNatClampNeg)) + 1))))))
noncomputable def mL_day_s92 (sa : Nat → Nat) (c2 : Int32) (c4 : Int32) (c5 : Int32) (c6 : Int32) (c7 : Int32) (c8 : Int32) (s92 : Int32 × KS) : Option ((KS) ⊕ (Int32 × KS)) :=
  if c7 ≤ s92.1 then
  (some (.inl s92.2))
  else
  (if (c6 - c6 / 4 * 4) = 3 then
  (mL_day_s92_j124 sa s92.2 c2 c4 c5 c6 c7 c8 s92.1 (10 + c8) ((gR s92.2 20) ((63 : Int32).toNatClampNeg)))
  else
  (mL_day_s92_j124 sa s92.2 c2 c4 c5 c6 c7 c8 s92.1 (c6 - c6 / 4 * 4) ((gR s92.2 20) ((63 : Int32).toNatClampNeg))))
noncomputable def mL_day_s18_j217 (sa : Nat → Nat) (ju217 : KS) (j217_2 : Int32) (j217_4 : Int32) (j217_5 : Int32) (j217_7 : Int32) : Option ((KS) ⊕ (Int32 × KS)) :=
  (mL_digits ju217 j217_7).bind fun r220 =>
  (mX5_type (sR r220 20 (gR ju217 20)) 59 1).bind fun r228 =>
  mL_day_s18_j232 sa (sR r228.2 20 (gR ju217 20)) j217_2 j217_4 j217_5
noncomputable def mL_day_s18_j70 (sa : Nat → Nat) (ju70 : KS) (j70_2 : Int32) (j70_4 : Int32) (j70_5 : Int32) (j70_6 : Int32) (j70_t0 : Int32) : Option ((KS) ⊕ (Int32 × KS)) :=
  if j70_t0 ≤ 0 then
  (mL_day_s18_j232 sa ju70 j70_2 j70_4 j70_5)
  else
  ((lpF (mL_day_s92 sa j70_2 j70_4 j70_5 j70_6 j70_t0 (1 + ((j70_6 >>> ((8 : Int32) &&& 31) : Int32) - (j70_6 >>> ((8 : Int32) &&& 31) : Int32) / 9 * 9))) (0, ju70)).bind fun e92 =>
  if j70_2 = 0 then
  (mL_day_s18_j232 sa e92 j70_2 j70_4 j70_5)
  else
  (if (j70_6 - j70_6 / 4 * 4) = 0 then
  ((mX5_type e92 495873781348 5).bind fun r155 =>
  mL_day_s18_j217 sa (sR r155.2 20 (gR e92 20)) j70_2 j70_4 j70_5 j70_t0)
  else
  (if (j70_6 - j70_6 / 4 * 4) = 1 then
  ((mX5_type e92 139207142501 5).bind fun r175 =>
  mL_day_s18_j217 sa (sR r175.2 20 (gR e92 20)) j70_2 j70_4 j70_5 j70_t0)
  else
  (if (j70_6 - j70_6 / 4 * 4) = 2 then
  ((mX5_type e92 427070419828 5).bind fun r195 =>
  mL_day_s18_j217 sa (sR r195.2 20 (gR e92 20)) j70_2 j70_4 j70_5 j70_t0)
  else
  ((mX5_type e92 1886743660 4).bind fun r207 =>
  (mL_digits (sR r207.2 20 (gR e92 20)) (1 + ((j70_6 >>> ((8 : Int32) &&& 31) : Int32) - (j70_6 >>> ((8 : Int32) &&& 31) : Int32) / 9 * 9))).bind fun r214 =>
  mL_day_s18_j217 sa (sR r214 20 (gR e92 20)) j70_2 j70_4 j70_5 j70_t0)))))
noncomputable def mL_day_s18 (sa : Nat → Nat) (c2 : Int32) (c4 : Int32) (s18 : Int32 × KS) : Option ((KS) ⊕ (Int32 × KS)) :=
  if c4 ≤ s18.1 then
  (some (.inl s18.2))
  else
  ((mL_cell sa (1 + s18.1)).bind fun r30 =>
  if (((gR s18.2 20) ((63 : Int32).toNatClampNeg)) + (1 + ((r30 >>> ((2 : Int32) &&& 31) : Int32) - (r30 >>> ((2 : Int32) &&& 31) : Int32) / 14 * 14))) ≤ 60 then
  (mL_day_s18_j70 sa s18.2 c2 c4 s18.1 r30 (1 + ((r30 >>> ((2 : Int32) &&& 31) : Int32) - (r30 >>> ((2 : Int32) &&& 31) : Int32) / 14 * 14)))
  else
  (mL_day_s18_j70 sa s18.2 c2 c4 s18.1 r30 (60 - ((gR s18.2 20) ((63 : Int32).toNatClampNeg)))))
noncomputable def mL_day5 (sa : Nat → Nat) (u : KS) (a2 : Int32) : Option KS :=
  (mL_cell sa 0).bind fun r7 =>
  (lpF (mL_day_s18 sa a2 (r7 - r7 / 9 * 9)) (0, u)).bind fun e18 =>
  some e18
noncomputable def mL_day (sa : Nat → Nat) (u : KS) (a2 : Int32) : Option KS := mL_day5 sa (sR u 20 (fun _ => 0)) a2
abbrev rmL_day : Room := { frames := 5, cells := 1, slots := 64, locals := 109 }
set_option maxRecDepth 100000 in
set_option maxHeartbeats 4000000 in
theorem zL_day5 {p : Program} {l : Launch} {e : Env} {s : State} {m : MethodId} {below : List Frame} {meth : Method} {c : Code} {D : va_G} {cy : Nat → ClassId} {sa : Nat → Nat} {A : Nat → Prop} {q : Nat → Nat} {rest : va_W} {u : KS} {a2 : Int32} {res : KS} {H : Heap} {locs : List Loc} {ls : Array Slot} (hx : p.tables.exec = Jvm.exec) (hb : c.code = cL_day) (hml : c.maxLocals = 10) (hr : meth.sig.returnType = some (.array .int)) (hts : ∀ w ∈ wsL_law, w.before ([.ref (q 0), .ref (sa 10), .int a2] : List Value).toArray s = true) (hown : s.vm.findClass RL = some m.cls) (hlocks : meth.locks = false) (hA : ∀ x : Nat, s.heap.size ≤ x → A x) (hE : kE D cy sa A s s.heap) (hP : va_P D vwCl (WXR q cy u ++ rest) H) (hD : va_D A (WXR q cy u ++ rest)) (hS : va_S A s.heap H locs) (hl : lv_has ls 10 [(3, .ref (q 27)), (0, .ref (q 0)), (1, .ref (sa 10)), (2, .int a2)]) (hf : mL_day5 sa u a2 = some res) : W p l e rmL_day s m ([.ref (q 0), .ref (sa 10), .int a2] : List Value).toArray below meth c H locs 1 64 (MQ below (kQr D A (fun t => WX q cy res ++ (.mk t (.inl (cy 0, 64, .inl (gR res 20))) :: rest))) (([.ref (q 0), .ref (sa 10), .int a2] : List Value).toArray) s 1 64 A) (F0 m 5 ls []) := by
  unfold mL_day5 at hf
  refine lv_aload_n hx hb dL_day_5 rfl (lv_at hl 2 rfl) ?_
  refine lv_iconst (v := 0) hx hb dL_day_6 (by decide) ?_
  obtain ⟨r7, h7r, hf⟩ := o_bs hf
  refine k_goi (va_runS (As := [.ref (sa 10), .int 0]) (rest := []) ⟨hx, hb, hml, hown, hts⟩ (zL_cell l D cy sa (WXR q cy u ++ rest) H.size 0  r7  h7r) (va_cwS 2 hts (gB_S wB91 wB92 wB81 wB93) rfl rfl rfl (by decide +kernel) ⟨Nat.le_of_ble_eq_true rfl, Nat.le_of_ble_eq_true rfl⟩) ⟨kP.blind, k_pre hP hD hS hE hA⟩ rfl rfl hl.1 rfl (lv_room (Nat.le_of_ble_eq_true rfl)) dL_day_7 ⟨(Nat.le_of_ble_eq_true rfl), (Nat.le_of_ble_eq_true rfl)⟩) hD hS hA (fun H locs hP hD hS => ?_)
  refine lv_bipush (v := 9) hx hb dL_day_10 (by decide) ?_
  refine lv_irem hx hb dL_day_12 (by decide) ?_
  refine lv_istore (lv' := [(4, .int (r7 - r7 / 9 * 9)), (3, .ref (q 27)), (0, .ref (q 0)), (1, .ref (sa 10)), (2, .int a2)]) hx hb dL_day_13 hl (by decide) rfl (fun ls hl => ?_)
  refine lv_iconst (v := 0) hx hb dL_day_15 (by decide) ?_
  refine lv_istore (lv' := [(5, .int 0), (4, .int (r7 - r7 / 9 * 9)), (3, .ref (q 27)), (0, .ref (q 0)), (1, .ref (sa 10)), (2, .int a2)]) hx hb dL_day_16 hl (by decide) rfl (fun ls hl => ?_)
  have L18 : ∀ (n18v : Nat) (s18 : Int32 × KS) (e18 : KS), lpO (mL_day_s18 sa a2 (r7 - r7 / 9 * 9)) n18v s18 = some e18 → ∀ (H : Heap) (locs : List Loc) (ls : Array Slot), va_P D vwCl (WXR q cy s18.2 ++ rest) H → va_D A (WXR q cy s18.2 ++ rest) → va_S A s.heap H locs → lv_has ls 10 [(0, .ref (q 0)), (1, .ref (sa 10)), (2, .int a2), (3, .ref (q 27)), (4, .int (r7 - r7 / 9 * 9)), (5, .int s18.1)] → (∀ (H : Heap) (locs : List Loc) (ls : Array Slot), va_P D vwCl (WXR q cy e18 ++ rest) H → va_D A (WXR q cy e18 ++ rest) → va_S A s.heap H locs → lv_has ls 10 [(3, .ref (q 27))] → W p l e rmL_day s m ([.ref (q 0), .ref (sa 10), .int a2] : List Value).toArray below meth c H locs 1 64 (MQ below (kQr D A (fun t => WX q cy res ++ (.mk t (.inl (cy 0, 64, .inl (gR res 20))) :: rest))) (([.ref (q 0), .ref (sa 10), .int a2] : List Value).toArray) s 1 64 A) (F0 m 238 ls [])) → W p l e rmL_day s m ([.ref (q 0), .ref (sa 10), .int a2] : List Value).toArray below meth c H locs 1 64 (MQ below (kQr D A (fun t => WX q cy res ++ (.mk t (.inl (cy 0, 64, .inl (gR res 20))) :: rest))) (([.ref (q 0), .ref (sa 10), .int a2] : List Value).toArray) s 1 64 A) (F0 m 18 ls []) := by
    intro n18v
    induction n18v with
    | zero => intro s18 e18 h; exact (lpO_z h).elim
    | succ n18v ih18 =>
      intro s18 e18 h18z H locs ls hP hD hS hl K18_0
      obtain ⟨x18, hf, h18z⟩ := lpO_s h18z
      unfold mL_day_s18 at hf
      have J232 : ∀ (ju232 : KS) (j232_5 : Int32), mL_day_s18_j232 sa ju232 a2 (r7 - r7 / 9 * 9) j232_5 = some x18 → ∀ (H : Heap) (locs : List Loc) (ls : Array Slot), va_P D vwCl (WXR q cy ju232 ++ rest) H → va_D A (WXR q cy ju232 ++ rest) → va_S A s.heap H locs → lv_has ls 10 [(0, .ref (q 0)), (1, .ref (sa 10)), (2, .int a2), (3, .ref (q 27)), (4, .int (r7 - r7 / 9 * 9)), (5, .int j232_5)] → W p l e rmL_day s m ([.ref (q 0), .ref (sa 10), .int a2] : List Value).toArray below meth c H locs 1 64 (MQ below (kQr D A (fun t => WX q cy res ++ (.mk t (.inl (cy 0, 64, .inl (gR res 20))) :: rest))) (([.ref (q 0), .ref (sa 10), .int a2] : List Value).toArray) s 1 64 A) (F0 m 232 ls []) := by
        intro ju232 j232_5 hf H locs ls hP hD hS hl
        unfold mL_day_s18_j232 at hf
        refine lv_iinc (v := (j232_5 + 1)) (lv' := [(5, .int (j232_5 + 1)), (0, .ref (q 0)), (1, .ref (sa 10)), (2, .int a2), (3, .ref (q 27)), (4, .int (r7 - r7 / 9 * 9))]) hx hb dL_day_232 hl (k := 5) rfl (by rfl) (by decide) rfl (fun ls hl => ?_)
        refine lv_goto (tgt := 18) hx hb dL_day_235 (by decide) ?_
        obtain rfl := o_ret hf
        exact ih18 _ _ (lpK_r h18z) _ _ _ hP hD hS (lv_sub hl [1, 2, 3, 4, 5, 0] rfl) K18_0
      have J217 : ∀ (ju217 : KS) (j217_5 : Int32) (j217_7 : Int32), mL_day_s18_j217 sa ju217 a2 (r7 - r7 / 9 * 9) j217_5 j217_7 = some x18 → ∀ (H : Heap) (locs : List Loc) (ls : Array Slot), va_P D vwCl (WXR q cy ju217 ++ rest) H → va_D A (WXR q cy ju217 ++ rest) → va_S A s.heap H locs → lv_has ls 10 [(0, .ref (q 0)), (1, .ref (sa 10)), (2, .int a2), (3, .ref (q 27)), (4, .int (r7 - r7 / 9 * 9)), (5, .int j217_5), (7, .int j217_7)] → W p l e rmL_day s m ([.ref (q 0), .ref (sa 10), .int a2] : List Value).toArray below meth c H locs 1 64 (MQ below (kQr D A (fun t => WX q cy res ++ (.mk t (.inl (cy 0, 64, .inl (gR res 20))) :: rest))) (([.ref (q 0), .ref (sa 10), .int a2] : List Value).toArray) s 1 64 A) (F0 m 217 ls []) := by
        intro ju217 j217_5 j217_7 hf H locs ls hP hD hS hl
        unfold mL_day_s18_j217 at hf
        refine lv_aload_n hx hb dL_day_217 rfl (lv_at hl 0 rfl) ?_
        refine lv_iload hx hb dL_day_218 (lv_at hl 6 rfl) ?_
        obtain ⟨r220, h220r, hf⟩ := o_bs hf
        have hP := k_xrP (u := ju217) (f := (gR ju217 20)) rfl hP
        have hD := k_xrD (u := ju217) (f := (gR ju217 20)) rfl hD
        refine k_gov (va_runS (As := [.ref (q 0), .int j217_7]) (rest := []) ⟨hx, hb, hml, hown, hts⟩ (zL_digits l D cy sa q (kRow q cy (gR ju217 20) :: rest) H.size ju217 j217_7 r220 h220r) (va_cwS 2 hts (gB_S wB124 wB125 wB81 wB126) rfl rfl rfl (by decide +kernel) ⟨Nat.le_of_ble_eq_true rfl, Nat.le_of_ble_eq_true rfl⟩) ⟨kP.blind, k_pre hP hD hS hE hA⟩ rfl rfl hl.1 rfl (lv_room (Nat.le_of_ble_eq_true rfl)) dL_day_220 ⟨(Nat.le_of_ble_eq_true rfl), (Nat.le_of_ble_eq_true rfl)⟩) hD hS hA (fun H locs hP hD hS => ?_)
        have hP : va_P D vwCl (WXR q cy (sR r220 20 (gR ju217 20)) ++ rest) H := k_rxP hP
        have hD : va_D A (WXR q cy (sR r220 20 (gR ju217 20)) ++ rest) := k_rxD hD
        refine lv_aload_n hx hb dL_day_223 rfl (lv_at hl 0 rfl) ?_
        refine lv_ldc2 (v := 59) hx hb hown (hts _ wB90) dL_day_224 ?_
        refine lv_iconst (v := 1) hx hb dL_day_227 (by decide) ?_
        obtain ⟨r228, h228r, hf⟩ := o_bs hf
        have hP := k_xrP (u := (sR r220 20 (gR ju217 20))) (f := (gR ju217 20)) rfl hP
        have hD := k_xrD (u := (sR r220 20 (gR ju217 20))) (f := (gR ju217 20)) rfl hD
        refine k_goi (va_runV (As := [.long 59, .int 1]) (rest := []) ⟨hx, hb, hml, hown, hts⟩ (zX5_type l D cy sa q (kRow q cy (gR ju217 20) :: rest) H.size (sR r220 20 (gR ju217 20)) 59 1 r228 h228r) (cwV 2 hts (gB_V wB96 wB97 wB98 wB2 wB99) rfl rfl rfl (by decide +kernel) ⟨Nat.le_of_ble_eq_true rfl, Nat.le_of_ble_eq_true rfl⟩) ⟨kP.blind, k_recv hE hP (ci := 5) (q0 := 0) rfl rfl, k_pre hP hD hS hE hA⟩ rfl rfl hl.1 rfl (lv_room (Nat.le_of_ble_eq_true rfl)) dL_day_228 ⟨(Nat.le_of_ble_eq_true rfl), (Nat.le_of_ble_eq_true rfl)⟩) hD hS hA (fun H locs hP hD hS => ?_)
        have hP : va_P D vwCl (WXR q cy (sR r228.2 20 (gR ju217 20)) ++ rest) H := k_rxP hP
        have hD : va_D A (WXR q cy (sR r228.2 20 (gR ju217 20)) ++ rest) := k_rxD hD
        refine lv_pop hx hb dL_day_231 rfl ?_
        exact J232 _ _ hf _ _ _ hP hD hS (lv_sub hl [0, 1, 2, 3, 4, 5] rfl)
      have J70 : ∀ (ju70 : KS) (j70_5 : Int32) (j70_6 : Int32) (j70_t0 : Int32), mL_day_s18_j70 sa ju70 a2 (r7 - r7 / 9 * 9) j70_5 j70_6 j70_t0 = some x18 → ∀ (H : Heap) (locs : List Loc) (ls : Array Slot), va_P D vwCl (WXR q cy ju70 ++ rest) H → va_D A (WXR q cy ju70 ++ rest) → va_S A s.heap H locs → lv_has ls 10 [(0, .ref (q 0)), (1, .ref (sa 10)), (2, .int a2), (3, .ref (q 27)), (4, .int (r7 - r7 / 9 * 9)), (5, .int j70_5), (6, .int j70_6)] → W p l e rmL_day s m ([.ref (q 0), .ref (sa 10), .int a2] : List Value).toArray below meth c H locs 1 64 (MQ below (kQr D A (fun t => WX q cy res ++ (.mk t (.inl (cy 0, 64, .inl (gR res 20))) :: rest))) (([.ref (q 0), .ref (sa 10), .int a2] : List Value).toArray) s 1 64 A) (F0 m 70 ls [.int j70_t0]) := by
        intro ju70 j70_5 j70_6 j70_t0 hf H locs ls hP hD hS hl
        unfold mL_day_s18_j70 at hf
        refine lv_istore (lv' := [(7, .int j70_t0), (0, .ref (q 0)), (1, .ref (sa 10)), (2, .int a2), (3, .ref (q 27)), (4, .int (r7 - r7 / 9 * 9)), (5, .int j70_5), (6, .int j70_6)]) hx hb dL_day_70 hl (by decide) rfl (fun ls hl => ?_)
        refine lv_iconst (v := 1) hx hb dL_day_72 (by decide) ?_
        refine lv_iload hx hb dL_day_73 (lv_at hl 7 rfl) ?_
        refine lv_bipush (v := 8) hx hb dL_day_75 (by decide) ?_
        refine lv_ishr hx hb dL_day_77 ?_
        refine lv_bipush (v := 9) hx hb dL_day_78 (by decide) ?_
        refine lv_irem hx hb dL_day_80 (by decide) ?_
        refine lv_iadd hx hb dL_day_81 ?_
        refine lv_istore (lv' := [(8, .int (1 + ((j70_6 >>> ((8 : Int32) &&& 31) : Int32) - (j70_6 >>> ((8 : Int32) &&& 31) : Int32) / 9 * 9))), (7, .int j70_t0), (0, .ref (q 0)), (1, .ref (sa 10)), (2, .int a2), (3, .ref (q 27)), (4, .int (r7 - r7 / 9 * 9)), (5, .int j70_5), (6, .int j70_6)]) hx hb dL_day_82 hl (by decide) rfl (fun ls hl => ?_)
        refine lv_iload hx hb dL_day_84 (lv_at hl 1 rfl) ?_
        refine lv_if_le (tgt := 232) hx hb dL_day_86 (by decide) (fun c86 => ?_) (fun c86 => ?_)
        · have hf := o_ip c86 hf
          exact J232 _ _ hf _ _ _ hP hD hS (lv_sub hl [2, 3, 4, 5, 6, 7] rfl)
        · have hf := o_in c86 hf
          refine lv_iconst (v := 0) hx hb dL_day_89 (by decide) ?_
          refine lv_istore (lv' := [(9, .int 0), (8, .int (1 + ((j70_6 >>> ((8 : Int32) &&& 31) : Int32) - (j70_6 >>> ((8 : Int32) &&& 31) : Int32) / 9 * 9))), (7, .int j70_t0), (0, .ref (q 0)), (1, .ref (sa 10)), (2, .int a2), (3, .ref (q 27)), (4, .int (r7 - r7 / 9 * 9)), (5, .int j70_5), (6, .int j70_6)]) hx hb dL_day_90 hl (by decide) rfl (fun ls hl => ?_)
          have L92 : ∀ (n92v : Nat) (s92 : Int32 × KS) (e92 : KS), lpO (mL_day_s92 sa a2 (r7 - r7 / 9 * 9) j70_5 j70_6 j70_t0 (1 + ((j70_6 >>> ((8 : Int32) &&& 31) : Int32) - (j70_6 >>> ((8 : Int32) &&& 31) : Int32) / 9 * 9))) n92v s92 = some e92 → ∀ (H : Heap) (locs : List Loc) (ls : Array Slot), va_P D vwCl (WXR q cy s92.2 ++ rest) H → va_D A (WXR q cy s92.2 ++ rest) → va_S A s.heap H locs → lv_has ls 10 [(0, .ref (q 0)), (1, .ref (sa 10)), (2, .int a2), (3, .ref (q 27)), (4, .int (r7 - r7 / 9 * 9)), (5, .int j70_5), (6, .int j70_6), (7, .int j70_t0), (8, .int (1 + ((j70_6 >>> ((8 : Int32) &&& 31) : Int32) - (j70_6 >>> ((8 : Int32) &&& 31) : Int32) / 9 * 9))), (9, .int s92.1)] → (∀ (H : Heap) (locs : List Loc) (ls : Array Slot), va_P D vwCl (WXR q cy e92 ++ rest) H → va_D A (WXR q cy e92 ++ rest) → va_S A s.heap H locs → lv_has ls 10 [(0, .ref (q 0)), (1, .ref (sa 10)), (2, .int a2), (3, .ref (q 27)), (4, .int (r7 - r7 / 9 * 9)), (5, .int j70_5), (6, .int j70_6), (7, .int j70_t0), (8, .int (1 + ((j70_6 >>> ((8 : Int32) &&& 31) : Int32) - (j70_6 >>> ((8 : Int32) &&& 31) : Int32) / 9 * 9)))] → W p l e rmL_day s m ([.ref (q 0), .ref (sa 10), .int a2] : List Value).toArray below meth c H locs 1 64 (MQ below (kQr D A (fun t => WX q cy res ++ (.mk t (.inl (cy 0, 64, .inl (gR res 20))) :: rest))) (([.ref (q 0), .ref (sa 10), .int a2] : List Value).toArray) s 1 64 A) (F0 m 139 ls [])) → W p l e rmL_day s m ([.ref (q 0), .ref (sa 10), .int a2] : List Value).toArray below meth c H locs 1 64 (MQ below (kQr D A (fun t => WX q cy res ++ (.mk t (.inl (cy 0, 64, .inl (gR res 20))) :: rest))) (([.ref (q 0), .ref (sa 10), .int a2] : List Value).toArray) s 1 64 A) (F0 m 92 ls []) := by
            intro n92v
            induction n92v with
            | zero => intro s92 e92 h; exact (lpO_z h).elim
            | succ n92v ih92 =>
              intro s92 e92 h92z H locs ls hP hD hS hl K92_0
              obtain ⟨x92, hf, h92z⟩ := lpO_s h92z
              unfold mL_day_s92 at hf
              have J124 : ∀ (ju124 : KS) (j124_9 : Int32) (j124_t0 : Int32) (j124_t1 : Int32), mL_day_s92_j124 sa ju124 a2 (r7 - r7 / 9 * 9) j70_5 j70_6 j70_t0 (1 + ((j70_6 >>> ((8 : Int32) &&& 31) : Int32) - (j70_6 >>> ((8 : Int32) &&& 31) : Int32) / 9 * 9)) j124_9 j124_t0 j124_t1 = some x92 → ∀ (H : Heap) (locs : List Loc) (ls : Array Slot), va_P D vwCl (WXR q cy ju124 ++ rest) H → va_D A (WXR q cy ju124 ++ rest) → va_S A s.heap H locs → lv_has ls 10 [(0, .ref (q 0)), (1, .ref (sa 10)), (2, .int a2), (3, .ref (q 27)), (4, .int (r7 - r7 / 9 * 9)), (5, .int j70_5), (6, .int j70_6), (7, .int j70_t0), (8, .int (1 + ((j70_6 >>> ((8 : Int32) &&& 31) : Int32) - (j70_6 >>> ((8 : Int32) &&& 31) : Int32) / 9 * 9))), (9, .int j124_9)] → W p l e rmL_day s m ([.ref (q 0), .ref (sa 10), .int a2] : List Value).toArray below meth c H locs 1 64 (MQ below (kQr D A (fun t => WX q cy res ++ (.mk t (.inl (cy 0, 64, .inl (gR res 20))) :: rest))) (([.ref (q 0), .ref (sa 10), .int a2] : List Value).toArray) s 1 64 A) (F0 m 124 ls [.int j124_t0, .int j124_t1, .ref (q 27)]) := by
                intro ju124 j124_9 j124_t0 j124_t1 hf H locs ls hP hD hS hl
                unfold mL_day_s92_j124 at hf
                obtain ⟨hg124, hf⟩ := gd_s hf
                refine va_iast (f := (gR ju124 20)) hx hb hE.1 hP hD hS 27 0 rfl rfl hg124 dL_day_124 (fun H locs hP hD hS => ?_)
                have hP : va_P D vwCl (WXR q cy (sR ju124 20 (upd (gR ju124 20) (j124_t1.toNatClampNeg) j124_t0)) ++ rest) H := hP
                have hD : va_D A (WXR q cy (sR ju124 20 (upd (gR ju124 20) (j124_t1.toNatClampNeg) j124_t0)) ++ rest) := hD
                refine lv_aload_n hx hb dL_day_125 rfl (lv_at hl 3 rfl) ?_
                refine lv_bipush (v := 63) hx hb dL_day_126 (by decide) ?_
                refine lv_dup2_11 hx hb dL_day_128 rfl rfl ?_
                refine va_iald (f := (upd (gR ju124 20) (j124_t1.toNatClampNeg) j124_t0)) hx hb hE.1 hP 27 0 rfl rfl (k_in (by decide)) dL_day_129 ?_
                refine lv_iconst (v := 1) hx hb dL_day_130 (by decide) ?_
                refine lv_iadd hx hb dL_day_131 ?_
                refine va_iast (f := (upd (gR ju124 20) (j124_t1.toNatClampNeg) j124_t0)) hx hb hE.1 hP hD hS 27 0 rfl rfl (k_in (by decide)) dL_day_132 (fun H locs hP hD hS => ?_)
                have hQ : ∀ (xb : KS) (x0 : (Nat → Int32)) (xn : (Nat → Int32)), (WXR q cy (sR xb 20 x0) ++ rest).set 27 (q 27, .inl (cy 0, 64, .inl xn)) = WXR q cy (sR xb 20 xn) ++ rest := fun _ _ _ => rfl
                have hP : va_P D vwCl (WXR q cy (sR ju124 20 (upd (upd (gR ju124 20) (j124_t1.toNatClampNeg) j124_t0) ((63 : Int32).toNatClampNeg) (((upd (gR ju124 20) (j124_t1.toNatClampNeg) j124_t0) ((63 : Int32).toNatClampNeg)) + 1))) ++ rest) H := k_wP (hQ ju124 (upd (gR ju124 20) (j124_t1.toNatClampNeg) j124_t0) (upd (upd (gR ju124 20) (j124_t1.toNatClampNeg) j124_t0) ((63 : Int32).toNatClampNeg) (((upd (gR ju124 20) (j124_t1.toNatClampNeg) j124_t0) ((63 : Int32).toNatClampNeg)) + 1))) hP
                have hD : va_D A (WXR q cy (sR ju124 20 (upd (upd (gR ju124 20) (j124_t1.toNatClampNeg) j124_t0) ((63 : Int32).toNatClampNeg) (((upd (gR ju124 20) (j124_t1.toNatClampNeg) j124_t0) ((63 : Int32).toNatClampNeg)) + 1))) ++ rest) := k_wD (hQ ju124 (upd (gR ju124 20) (j124_t1.toNatClampNeg) j124_t0) (upd (upd (gR ju124 20) (j124_t1.toNatClampNeg) j124_t0) ((63 : Int32).toNatClampNeg) (((upd (gR ju124 20) (j124_t1.toNatClampNeg) j124_t0) ((63 : Int32).toNatClampNeg)) + 1))) hD
                clear hQ
                refine lv_iinc (v := (j124_9 + 1)) (lv' := [(9, .int (j124_9 + 1)), (0, .ref (q 0)), (1, .ref (sa 10)), (2, .int a2), (3, .ref (q 27)), (4, .int (r7 - r7 / 9 * 9)), (5, .int j70_5), (6, .int j70_6), (7, .int j70_t0), (8, .int (1 + ((j70_6 >>> ((8 : Int32) &&& 31) : Int32) - (j70_6 >>> ((8 : Int32) &&& 31) : Int32) / 9 * 9)))]) hx hb dL_day_133 hl (k := 9) rfl (by rfl) (by decide) rfl (fun ls hl => ?_)
                refine lv_goto (tgt := 92) hx hb dL_day_136 (by decide) ?_
                obtain rfl := o_ret hf
                exact ih92 _ _ (lpK_r h92z) _ _ _ hP hD hS (lv_sub hl [1, 2, 3, 4, 5, 6, 7, 8, 9, 0] rfl) K92_0
              refine lv_iload hx hb dL_day_92 (lv_at hl 9 rfl) ?_
              refine lv_iload hx hb dL_day_94 (lv_at hl 7 rfl) ?_
              refine lv_icmp_ge (tgt := 139) hx hb dL_day_96 (by decide) (fun c96 => ?_) (fun c96 => ?_)
              · have hf := o_ip c96 hf
                obtain rfl := o_ret hf
                obtain rfl := lpK_l h92z
                exact K92_0 _ _ _ hP hD hS (lv_sub hl [0, 1, 2, 3, 4, 5, 6, 7, 8] rfl)
              · have hf := o_in c96 hf
                refine lv_aload_n hx hb dL_day_99 rfl (lv_at hl 3 rfl) ?_
                refine lv_aload_n hx hb dL_day_100 rfl (lv_at hl 3 rfl) ?_
                refine lv_bipush (v := 63) hx hb dL_day_101 (by decide) ?_
                refine va_iald (f := (gR s92.2 20)) hx hb hE.1 hP 27 0 rfl rfl (k_in (by decide)) dL_day_103 ?_
                refine lv_iload hx hb dL_day_104 (lv_at hl 6 rfl) ?_
                refine lv_iconst (v := 4) hx hb dL_day_106 (by decide) ?_
                refine lv_irem hx hb dL_day_107 (by decide) ?_
                refine lv_iconst (v := 3) hx hb dL_day_108 (by decide) ?_
                refine lv_icmp_ne (tgt := 120) hx hb dL_day_109 (by decide) (fun c109 => ?_) (fun c109 => ?_)
                · have hf := o_in c109 hf
                  refine lv_iload hx hb dL_day_120 (lv_at hl 6 rfl) ?_
                  refine lv_iconst (v := 4) hx hb dL_day_122 (by decide) ?_
                  refine lv_irem hx hb dL_day_123 (by decide) ?_
                  exact J124 _ _ _ _ hf _ _ _ hP hD hS (lv_sub hl [0, 1, 2, 3, 4, 5, 6, 7, 8, 9] rfl)
                · have hf := o_ip c109 hf
                  refine lv_bipush (v := 10) hx hb dL_day_112 (by decide) ?_
                  refine lv_iload hx hb dL_day_114 (lv_at hl 8 rfl) ?_
                  refine lv_iadd hx hb dL_day_116 ?_
                  refine lv_goto (tgt := 124) hx hb dL_day_117 (by decide) ?_
                  exact J124 _ _ _ _ hf _ _ _ hP hD hS (lv_sub hl [0, 1, 2, 3, 4, 5, 6, 7, 8, 9] rfl)
          obtain ⟨e92, h92q, hf⟩ := o_bs hf
          obtain ⟨n92v, h92q⟩ := lpF_ex h92q
          refine L92 n92v _ e92 h92q _ _ _ hP hD hS (lv_sub hl [3, 4, 5, 6, 7, 8, 9, 2, 1, 0] rfl) ?_
          intro H locs ls hP hD hS hl
          refine lv_iload_n hx hb dL_day_139 rfl (lv_at hl 2 rfl) ?_
          refine lv_if_eq (tgt := 232) hx hb dL_day_140 (by decide) (fun c140 => ?_) (fun c140 => ?_)
          · have hf := o_ip c140 hf
            exact J232 _ _ hf _ _ _ hP hD hS (lv_sub hl [0, 1, 2, 3, 4, 5] rfl)
          · have hf := o_in c140 hf
            refine lv_iload hx hb dL_day_143 (lv_at hl 6 rfl) ?_
            refine lv_iconst (v := 4) hx hb dL_day_145 (by decide) ?_
            refine lv_irem hx hb dL_day_146 (by decide) ?_
            refine lv_if_ne (tgt := 162) hx hb dL_day_147 (by decide) (fun c147 => ?_) (fun c147 => ?_)
            · have hf := o_in c147 hf
              refine lv_iload hx hb dL_day_162 (lv_at hl 6 rfl) ?_
              refine lv_iconst (v := 4) hx hb dL_day_164 (by decide) ?_
              refine lv_irem hx hb dL_day_165 (by decide) ?_
              refine lv_iconst (v := 1) hx hb dL_day_166 (by decide) ?_
              refine lv_icmp_ne (tgt := 182) hx hb dL_day_167 (by decide) (fun c167 => ?_) (fun c167 => ?_)
              · have hf := o_in c167 hf
                refine lv_iload hx hb dL_day_182 (lv_at hl 6 rfl) ?_
                refine lv_iconst (v := 4) hx hb dL_day_184 (by decide) ?_
                refine lv_irem hx hb dL_day_185 (by decide) ?_
                refine lv_iconst (v := 2) hx hb dL_day_186 (by decide) ?_
                refine lv_icmp_ne (tgt := 202) hx hb dL_day_187 (by decide) (fun c187 => ?_) (fun c187 => ?_)
                · have hf := o_in c187 hf
                  refine lv_aload_n hx hb dL_day_202 rfl (lv_at hl 0 rfl) ?_
                  refine lv_ldc2 (v := 1886743660) hx hb hown (hts _ wB89) dL_day_203 ?_
                  refine lv_iconst (v := 4) hx hb dL_day_206 (by decide) ?_
                  obtain ⟨r207, h207r, hf⟩ := o_bs hf
                  have hP := k_xrP (u := e92) (f := (gR e92 20)) rfl hP
                  have hD := k_xrD (u := e92) (f := (gR e92 20)) rfl hD
                  refine k_goi (va_runV (As := [.long 1886743660, .int 4]) (rest := []) ⟨hx, hb, hml, hown, hts⟩ (zX5_type l D cy sa q (kRow q cy (gR e92 20) :: rest) H.size e92 1886743660 4 r207 h207r) (cwV 2 hts (gB_V wB96 wB97 wB98 wB2 wB99) rfl rfl rfl (by decide +kernel) ⟨Nat.le_of_ble_eq_true rfl, Nat.le_of_ble_eq_true rfl⟩) ⟨kP.blind, k_recv hE hP (ci := 5) (q0 := 0) rfl rfl, k_pre hP hD hS hE hA⟩ rfl rfl hl.1 rfl (lv_room (Nat.le_of_ble_eq_true rfl)) dL_day_207 ⟨(Nat.le_of_ble_eq_true rfl), (Nat.le_of_ble_eq_true rfl)⟩) hD hS hA (fun H locs hP hD hS => ?_)
                  have hP : va_P D vwCl (WXR q cy (sR r207.2 20 (gR e92 20)) ++ rest) H := k_rxP hP
                  have hD : va_D A (WXR q cy (sR r207.2 20 (gR e92 20)) ++ rest) := k_rxD hD
                  refine lv_pop hx hb dL_day_210 rfl ?_
                  refine lv_aload_n hx hb dL_day_211 rfl (lv_at hl 0 rfl) ?_
                  refine lv_iload hx hb dL_day_212 (lv_at hl 8 rfl) ?_
                  obtain ⟨r214, h214r, hf⟩ := o_bs hf
                  have hP := k_xrP (u := (sR r207.2 20 (gR e92 20))) (f := (gR e92 20)) rfl hP
                  have hD := k_xrD (u := (sR r207.2 20 (gR e92 20))) (f := (gR e92 20)) rfl hD
                  refine k_gov (va_runS (As := [.ref (q 0), .int (1 + ((j70_6 >>> ((8 : Int32) &&& 31) : Int32) - (j70_6 >>> ((8 : Int32) &&& 31) : Int32) / 9 * 9))]) (rest := []) ⟨hx, hb, hml, hown, hts⟩ (zL_digits l D cy sa q (kRow q cy (gR e92 20) :: rest) H.size (sR r207.2 20 (gR e92 20)) (1 + ((j70_6 >>> ((8 : Int32) &&& 31) : Int32) - (j70_6 >>> ((8 : Int32) &&& 31) : Int32) / 9 * 9)) r214 h214r) (va_cwS 2 hts (gB_S wB124 wB125 wB81 wB126) rfl rfl rfl (by decide +kernel) ⟨Nat.le_of_ble_eq_true rfl, Nat.le_of_ble_eq_true rfl⟩) ⟨kP.blind, k_pre hP hD hS hE hA⟩ rfl rfl hl.1 rfl (lv_room (Nat.le_of_ble_eq_true rfl)) dL_day_214 ⟨(Nat.le_of_ble_eq_true rfl), (Nat.le_of_ble_eq_true rfl)⟩) hD hS hA (fun H locs hP hD hS => ?_)
                  have hP : va_P D vwCl (WXR q cy (sR r214 20 (gR e92 20)) ++ rest) H := k_rxP hP
                  have hD : va_D A (WXR q cy (sR r214 20 (gR e92 20)) ++ rest) := k_rxD hD
                  exact J217 _ _ _ hf _ _ _ hP hD hS (lv_sub hl [0, 1, 2, 3, 4, 5, 7] rfl)
                · have hf := o_ip c187 hf
                  refine lv_aload_n hx hb dL_day_190 rfl (lv_at hl 0 rfl) ?_
                  refine lv_ldc2 (v := 427070419828) hx hb hown (hts _ wB88) dL_day_191 ?_
                  refine lv_iconst (v := 5) hx hb dL_day_194 (by decide) ?_
                  obtain ⟨r195, h195r, hf⟩ := o_bs hf
                  have hP := k_xrP (u := e92) (f := (gR e92 20)) rfl hP
                  have hD := k_xrD (u := e92) (f := (gR e92 20)) rfl hD
                  refine k_goi (va_runV (As := [.long 427070419828, .int 5]) (rest := []) ⟨hx, hb, hml, hown, hts⟩ (zX5_type l D cy sa q (kRow q cy (gR e92 20) :: rest) H.size e92 427070419828 5 r195 h195r) (cwV 2 hts (gB_V wB96 wB97 wB98 wB2 wB99) rfl rfl rfl (by decide +kernel) ⟨Nat.le_of_ble_eq_true rfl, Nat.le_of_ble_eq_true rfl⟩) ⟨kP.blind, k_recv hE hP (ci := 5) (q0 := 0) rfl rfl, k_pre hP hD hS hE hA⟩ rfl rfl hl.1 rfl (lv_room (Nat.le_of_ble_eq_true rfl)) dL_day_195 ⟨(Nat.le_of_ble_eq_true rfl), (Nat.le_of_ble_eq_true rfl)⟩) hD hS hA (fun H locs hP hD hS => ?_)
                  have hP : va_P D vwCl (WXR q cy (sR r195.2 20 (gR e92 20)) ++ rest) H := k_rxP hP
                  have hD : va_D A (WXR q cy (sR r195.2 20 (gR e92 20)) ++ rest) := k_rxD hD
                  refine lv_pop hx hb dL_day_198 rfl ?_
                  refine lv_goto (tgt := 217) hx hb dL_day_199 (by decide) ?_
                  exact J217 _ _ _ hf _ _ _ hP hD hS (lv_sub hl [0, 1, 2, 3, 4, 5, 7] rfl)
              · have hf := o_ip c167 hf
                refine lv_aload_n hx hb dL_day_170 rfl (lv_at hl 0 rfl) ?_
                refine lv_ldc2 (v := 139207142501) hx hb hown (hts _ wB87) dL_day_171 ?_
                refine lv_iconst (v := 5) hx hb dL_day_174 (by decide) ?_
                obtain ⟨r175, h175r, hf⟩ := o_bs hf
                have hP := k_xrP (u := e92) (f := (gR e92 20)) rfl hP
                have hD := k_xrD (u := e92) (f := (gR e92 20)) rfl hD
                refine k_goi (va_runV (As := [.long 139207142501, .int 5]) (rest := []) ⟨hx, hb, hml, hown, hts⟩ (zX5_type l D cy sa q (kRow q cy (gR e92 20) :: rest) H.size e92 139207142501 5 r175 h175r) (cwV 2 hts (gB_V wB96 wB97 wB98 wB2 wB99) rfl rfl rfl (by decide +kernel) ⟨Nat.le_of_ble_eq_true rfl, Nat.le_of_ble_eq_true rfl⟩) ⟨kP.blind, k_recv hE hP (ci := 5) (q0 := 0) rfl rfl, k_pre hP hD hS hE hA⟩ rfl rfl hl.1 rfl (lv_room (Nat.le_of_ble_eq_true rfl)) dL_day_175 ⟨(Nat.le_of_ble_eq_true rfl), (Nat.le_of_ble_eq_true rfl)⟩) hD hS hA (fun H locs hP hD hS => ?_)
                have hP : va_P D vwCl (WXR q cy (sR r175.2 20 (gR e92 20)) ++ rest) H := k_rxP hP
                have hD : va_D A (WXR q cy (sR r175.2 20 (gR e92 20)) ++ rest) := k_rxD hD
                refine lv_pop hx hb dL_day_178 rfl ?_
                refine lv_goto (tgt := 217) hx hb dL_day_179 (by decide) ?_
                exact J217 _ _ _ hf _ _ _ hP hD hS (lv_sub hl [0, 1, 2, 3, 4, 5, 7] rfl)
            · have hf := o_ip c147 hf
              refine lv_aload_n hx hb dL_day_150 rfl (lv_at hl 0 rfl) ?_
              refine lv_ldc2 (v := 495873781348) hx hb hown (hts _ wB86) dL_day_151 ?_
              refine lv_iconst (v := 5) hx hb dL_day_154 (by decide) ?_
              obtain ⟨r155, h155r, hf⟩ := o_bs hf
              have hP := k_xrP (u := e92) (f := (gR e92 20)) rfl hP
              have hD := k_xrD (u := e92) (f := (gR e92 20)) rfl hD
              refine k_goi (va_runV (As := [.long 495873781348, .int 5]) (rest := []) ⟨hx, hb, hml, hown, hts⟩ (zX5_type l D cy sa q (kRow q cy (gR e92 20) :: rest) H.size e92 495873781348 5 r155 h155r) (cwV 2 hts (gB_V wB96 wB97 wB98 wB2 wB99) rfl rfl rfl (by decide +kernel) ⟨Nat.le_of_ble_eq_true rfl, Nat.le_of_ble_eq_true rfl⟩) ⟨kP.blind, k_recv hE hP (ci := 5) (q0 := 0) rfl rfl, k_pre hP hD hS hE hA⟩ rfl rfl hl.1 rfl (lv_room (Nat.le_of_ble_eq_true rfl)) dL_day_155 ⟨(Nat.le_of_ble_eq_true rfl), (Nat.le_of_ble_eq_true rfl)⟩) hD hS hA (fun H locs hP hD hS => ?_)
              have hP : va_P D vwCl (WXR q cy (sR r155.2 20 (gR e92 20)) ++ rest) H := k_rxP hP
              have hD : va_D A (WXR q cy (sR r155.2 20 (gR e92 20)) ++ rest) := k_rxD hD
              refine lv_pop hx hb dL_day_158 rfl ?_
              refine lv_goto (tgt := 217) hx hb dL_day_159 (by decide) ?_
              exact J217 _ _ _ hf _ _ _ hP hD hS (lv_sub hl [0, 1, 2, 3, 4, 5, 7] rfl)
      refine lv_iload hx hb dL_day_18 (lv_at hl 5 rfl) ?_
      refine lv_iload hx hb dL_day_20 (lv_at hl 4 rfl) ?_
      refine lv_icmp_ge (tgt := 238) hx hb dL_day_22 (by decide) (fun c22 => ?_) (fun c22 => ?_)
      · have hf := o_ip c22 hf
        obtain rfl := o_ret hf
        obtain rfl := lpK_l h18z
        exact K18_0 _ _ _ hP hD hS (lv_sub hl [3] rfl)
      · have hf := o_in c22 hf
        refine lv_aload_n hx hb dL_day_25 rfl (lv_at hl 1 rfl) ?_
        refine lv_iconst (v := 1) hx hb dL_day_26 (by decide) ?_
        refine lv_iload hx hb dL_day_27 (lv_at hl 5 rfl) ?_
        refine lv_iadd hx hb dL_day_29 ?_
        obtain ⟨r30, h30r, hf⟩ := o_bs hf
        refine k_goi (va_runS (As := [.ref (sa 10), .int (1 + s18.1)]) (rest := []) ⟨hx, hb, hml, hown, hts⟩ (zL_cell l D cy sa (WXR q cy s18.2 ++ rest) H.size (1 + s18.1)  r30  h30r) (va_cwS 2 hts (gB_S wB91 wB92 wB81 wB93) rfl rfl rfl (by decide +kernel) ⟨Nat.le_of_ble_eq_true rfl, Nat.le_of_ble_eq_true rfl⟩) ⟨kP.blind, k_pre hP hD hS hE hA⟩ rfl rfl hl.1 rfl (lv_room (Nat.le_of_ble_eq_true rfl)) dL_day_30 ⟨(Nat.le_of_ble_eq_true rfl), (Nat.le_of_ble_eq_true rfl)⟩) hD hS hA (fun H locs hP hD hS => ?_)
        refine lv_istore (lv' := [(6, .int r30), (0, .ref (q 0)), (1, .ref (sa 10)), (2, .int a2), (3, .ref (q 27)), (4, .int (r7 - r7 / 9 * 9)), (5, .int s18.1)]) hx hb dL_day_33 hl (by decide) rfl (fun ls hl => ?_)
        refine lv_iconst (v := 1) hx hb dL_day_35 (by decide) ?_
        refine lv_iload hx hb dL_day_36 (lv_at hl 0 rfl) ?_
        refine lv_iconst (v := 2) hx hb dL_day_38 (by decide) ?_
        refine lv_ishr hx hb dL_day_39 ?_
        refine lv_bipush (v := 14) hx hb dL_day_40 (by decide) ?_
        refine lv_irem hx hb dL_day_42 (by decide) ?_
        refine lv_iadd hx hb dL_day_43 ?_
        refine lv_istore (lv' := [(7, .int (1 + ((r30 >>> ((2 : Int32) &&& 31) : Int32) - (r30 >>> ((2 : Int32) &&& 31) : Int32) / 14 * 14))), (6, .int r30), (0, .ref (q 0)), (1, .ref (sa 10)), (2, .int a2), (3, .ref (q 27)), (4, .int (r7 - r7 / 9 * 9)), (5, .int s18.1)]) hx hb dL_day_44 hl (by decide) rfl (fun ls hl => ?_)
        refine lv_aload_n hx hb dL_day_46 rfl (lv_at hl 5 rfl) ?_
        refine lv_bipush (v := 63) hx hb dL_day_47 (by decide) ?_
        refine va_iald (f := (gR s18.2 20)) hx hb hE.1 hP 27 0 rfl rfl (k_in (by decide)) dL_day_49 ?_
        refine lv_iload hx hb dL_day_50 (lv_at hl 0 rfl) ?_
        refine lv_iadd hx hb dL_day_52 ?_
        refine lv_bipush (v := 60) hx hb dL_day_53 (by decide) ?_
        refine lv_icmp_le (tgt := 68) hx hb dL_day_55 (by decide) (fun c55 => ?_) (fun c55 => ?_)
        · have hf := o_ip c55 hf
          refine lv_iload hx hb dL_day_68 (lv_at hl 0 rfl) ?_
          exact J70 _ _ _ _ hf _ _ _ hP hD hS (lv_sub hl [2, 3, 4, 5, 6, 7, 1] rfl)
        · have hf := o_in c55 hf
          refine lv_bipush (v := 60) hx hb dL_day_58 (by decide) ?_
          refine lv_aload_n hx hb dL_day_60 rfl (lv_at hl 5 rfl) ?_
          refine lv_bipush (v := 63) hx hb dL_day_61 (by decide) ?_
          refine va_iald (f := (gR s18.2 20)) hx hb hE.1 hP 27 0 rfl rfl (k_in (by decide)) dL_day_63 ?_
          refine lv_isub hx hb dL_day_64 ?_
          refine lv_goto (tgt := 70) hx hb dL_day_65 (by decide) ?_
          exact J70 _ _ _ _ hf _ _ _ hP hD hS (lv_sub hl [2, 3, 4, 5, 6, 7, 1] rfl)
  obtain ⟨e18, h18q, hf⟩ := o_bs hf
  obtain ⟨n18v, h18q⟩ := lpF_ex h18q
  refine L18 n18v _ e18 h18q _ _ _ hP hD hS (lv_sub hl [3, 4, 5, 2, 1, 0] rfl) ?_
  intro H locs ls hP hD hS hl
  obtain rfl := (o_ret hf).symm
  refine lv_aload_n hx hb dL_day_238 rfl (lv_at hl 0 rfl) ?_
  exact k_aret (w1 := fun t => WX q cy e18 ++ (.mk t (.inl (cy 0, 64, .inl (gR e18 20))) :: rest)) (ty := .int) hx hb hr (k_xrP rfl hP) (k_xrD rfl hD) hS (Nat.le_of_ble_eq_true rfl) (Nat.le_of_ble_eq_true rfl) hlocks dL_day_239
set_option maxRecDepth 100000 in
set_option maxHeartbeats 4000000 in
theorem zL_day (l : Launch) (D : va_G) (cy : Nat → ClassId) (sa : Nat → Nat) (q : Nat → Nat) (rest : va_W) (sz : Nat) (u : KS) (a2 : Int32) (res : KS) (hf : mL_day sa u a2 = some res) : kMr l yL_day (wsK yL_day cL_day 10 (some (.array .int))) rmL_day D cy sa (WX q cy u ++ rest) sz [.ref (q 0), .ref (sa 10), .int a2] (fun t => WX q cy res ++ (.mk t (.inl (cy 0, 64, .inl (gR res 20))) :: rest)) 1 64 := by
  refine kM_of (Qc := fun A => kQr D A (fun t => WX q cy res ++ (.mk t (.inl (cy 0, 64, .inl (gR res 20))) :: rest))) (cc := cL_day) (maxL := 10) (ret := (some (.array .int))) (by decide) (Nat.le_of_ble_eq_true rfl) ?_
  intro p e s m below meth c A hx hb hml hr hts hown hlocks hin hA hP hD hS hE hsz ls hl
  have hown : s.vm.findClass RL = some m.cls := hown
  have hl : lv_has ls 10 [(0, .ref (q 0)), (1, .ref (sa 10)), (2, .int a2)] := hl
  refine lv_bipush (v := 64) hx hb dL_day_0 (by decide) ?_
  refine va_newa (atype := .int) (ty := .int) (a0 := (64, .inl (fun _ => 0))) (N' := 64) hx hb (hts _ wB34) rfl hE.1 hP hD hS hA (fun cA => k_ncellI) (by decide) (by decide) (Nat.le_of_ble_eq_true rfl) (Nat.le_of_ble_eq_true rfl) (Nat.le_of_ble_eq_true rfl) dL_day_2 (fun t cA H hK hP hD hS => ?_)
  obtain rfl := k_cy0 hK
  clear hK
  have hP : va_P D vwCl (WX q cy u ++ ((t, .inl (cy 0, 64, .inl (fun _ => 0))) :: rest)) H := by have h9 := va_P.swap (a := WX q cy u) (b := rest) (c := [(t, .inl (cy 0, 64, .inl (fun _ => 0)))]) hP; rw [List.append_assoc] at h9; exact h9
  have hD : va_D A (WX q cy u ++ ((t, .inl (cy 0, 64, .inl (fun _ => 0))) :: rest)) := by have h9 := va_D.swap (a := WX q cy u) (b := rest) (c := [(t, .inl (cy 0, 64, .inl (fun _ => 0)))]) hD; rw [List.append_assoc] at h9; exact h9
  refine lv_astore_n (lv' := [(3, .ref t), (0, .ref (q 0)), (1, .ref (sa 10)), (2, .int a2)]) hx hb dL_day_4 rfl hl (by decide) rfl (fun ls hl => ?_)
  exact zL_day5 (q := qx q t) (u := sR u 20 (fun _ => 0)) hx hb hml hr hts hown hlocks hA hE (k_qxP hP) (k_qxD hD) hS hl hf
noncomputable def mL_tells (sa : Nat → Nat) (u : KS) : Option (Int32 × KS) :=
  (mL_day sa u 1).bind fun r3 =>
  (mL_first sa).bind fun r10 =>
  (mX5_put r3 0 r10).bind fun r13 =>
  gd (r13.1 = 0) ((mX5_faulty r13.2).bind fun r20 =>
  gd (r20.1 = (-1)) (some (1, r20.2)))
abbrev rmL_tells : Room := { frames := 10, cells := 1, slots := 64, locals := 217 }
set_option maxRecDepth 100000 in
set_option maxHeartbeats 4000000 in
theorem zL_tells (l : Launch) (D : va_G) (cy : Nat → ClassId) (sa : Nat → Nat) (q : Nat → Nat) (rest : va_W) (sz : Nat) (u : KS) (res : Int32 × KS) (hf : mL_tells sa u = some res) : kMi l yL_tells (wsK yL_tells cL_tells 2 (some .boolean)) rmL_tells D cy sa (WX q cy u ++ rest) sz [.ref (q 0), .ref (sa 10)] res.1 (WX q cy res.2 ++ rest) 1 64 := by
  refine kM_of (Qc := fun A => kQi D A res.1 (WX q cy res.2 ++ rest)) (cc := cL_tells) (maxL := 2) (ret := (some .boolean)) (by decide) (Nat.le_of_ble_eq_true rfl) ?_
  intro p e s m below meth c A hx hb hml hr hts hown hlocks hin hA hP hD hS hE hsz ls hl
  have hown : s.vm.findClass RL = some m.cls := hown
  obtain ⟨H, hH0⟩ : ∃ H, H = s.heap := ⟨_, rfl⟩
  obtain ⟨locs, hlocs0⟩ : ∃ locs : List Loc, locs = [] := ⟨_, rfl⟩
  have hP : va_P D vwCl (WX q cy u ++ rest) H := by rw [hH0]; exact hP
  have hS : va_S A s.heap H locs := by rw [hH0, hlocs0]; exact hS
  have hl : lv_has ls 2 [(0, .ref (q 0)), (1, .ref (sa 10))] := hl
  suffices hgoal : W p l e rmL_tells s m ([.ref (q 0), .ref (sa 10)] : List Value).toArray below meth c H locs 0 0 (MQ below (kQi D A res.1 (WX q cy res.2 ++ rest)) ([.ref (q 0), .ref (sa 10)] : List Value).toArray s 1 64 A) (F0 m 0 ls []) by rw [hH0, hlocs0] at hgoal; exact hgoal
  clear hH0 hlocs0
  unfold mL_tells at hf
  refine lv_aload_n hx hb dL_tells_0 rfl (lv_at hl 0 rfl) ?_
  refine lv_aload_n hx hb dL_tells_1 rfl (lv_at hl 1 rfl) ?_
  refine lv_iconst (v := 1) hx hb dL_tells_2 (by decide) ?_
  obtain ⟨r3, h3r, hf⟩ := o_bs hf
  refine k_gor (va_runS (As := [.ref (q 0), .ref (sa 10), .int 1]) (rest := []) ⟨hx, hb, hml, hown, hts⟩ (zL_day l D cy sa q rest H.size u 1 r3 h3r) (va_cwS 3 hts (gB_S wB83 wB84 wB81 wB85) rfl rfl rfl (by decide +kernel) ⟨(Nat.le_of_ble_eq_true rfl), (Nat.le_of_ble_eq_true rfl)⟩) ⟨kP.blind, k_pre hP hD hS hE hA⟩ rfl rfl hl.1 rfl (lv_room (Nat.le_of_ble_eq_true rfl)) dL_tells_3 ⟨(Nat.le_of_ble_eq_true rfl), (Nat.le_of_ble_eq_true rfl)⟩) hD hS hA (fun t H locs hP hD hS => ?_)
  have hP := k_dropP hP
  have hD := k_dropD hD
  refine lv_pop hx hb dL_tells_6 rfl ?_
  refine lv_aload_n hx hb dL_tells_7 rfl (lv_at hl 0 rfl) ?_
  refine lv_iconst (v := 0) hx hb dL_tells_8 (by decide) ?_
  refine lv_aload_n hx hb dL_tells_9 rfl (lv_at hl 1 rfl) ?_
  obtain ⟨r10, h10r, hf⟩ := o_bs hf
  refine k_goi (va_runS (As := [.ref (sa 10)]) (rest := [.int 0, .ref (q 0)]) ⟨hx, hb, hml, hown, hts⟩ (zL_first l D cy sa (WX q cy r3 ++ rest) H.size   r10  h10r) (va_cwS 1 hts (gB_S wB129 wB130 wB81 wB131) rfl rfl rfl (by decide +kernel) ⟨Nat.le_of_ble_eq_true rfl, Nat.le_of_ble_eq_true rfl⟩) ⟨kP.blind, k_pre hP hD hS hE hA⟩ rfl rfl hl.1 rfl (lv_room (Nat.le_of_ble_eq_true rfl)) dL_tells_10 ⟨(Nat.le_of_ble_eq_true rfl), (Nat.le_of_ble_eq_true rfl)⟩) hD hS hA (fun H locs hP hD hS => ?_)
  obtain ⟨r13, h13r, hf⟩ := o_bs hf
  refine k_goi (va_runV (As := [.int 0, .int r10]) (rest := []) ⟨hx, hb, hml, hown, hts⟩ (zX5_put l D cy sa q rest H.size r3 0 r10 r13 h13r) (cwV 2 hts (gB_V wB132 wB133 wB134 wB2 wB135) rfl rfl rfl (by decide +kernel) ⟨Nat.le_of_ble_eq_true rfl, Nat.le_of_ble_eq_true rfl⟩) ⟨kP.blind, k_recv hE hP (ci := 5) (q0 := 0) rfl rfl, k_pre hP hD hS hE hA⟩ rfl rfl hl.1 rfl (lv_room (Nat.le_of_ble_eq_true rfl)) dL_tells_13 ⟨(Nat.le_of_ble_eq_true rfl), (Nat.le_of_ble_eq_true rfl)⟩) hD hS hA (fun H locs hP hD hS => ?_)
  obtain ⟨hg16, hf⟩ := gd_s hf
  refine lv_if_ne (tgt := 31) hx hb dL_tells_16 (by decide) (fun c16 => absurd hg16 c16) (fun c16 => ?_)
  refine lv_aload_n hx hb dL_tells_19 rfl (lv_at hl 0 rfl) ?_
  obtain ⟨r20, h20r, hf⟩ := o_bs hf
  refine k_goi (va_runV (As := []) (rest := []) ⟨hx, hb, hml, hown, hts⟩ (zX5_faulty l D cy sa q rest H.size r13.2  r20 h20r) (cwV 0 hts (gB_V wB142 wB143 wB144 wB2 wB145) rfl rfl rfl (by decide +kernel) ⟨Nat.le_of_ble_eq_true rfl, Nat.le_of_ble_eq_true rfl⟩) ⟨kP.blind, k_recv hE hP (ci := 5) (q0 := 0) rfl rfl, k_pre hP hD hS hE hA⟩ rfl rfl hl.1 rfl (lv_room (Nat.le_of_ble_eq_true rfl)) dL_tells_20 ⟨(Nat.le_of_ble_eq_true rfl), (Nat.le_of_ble_eq_true rfl)⟩) hD hS hA (fun H locs hP hD hS => ?_)
  refine lv_iconst (v := (-1)) hx hb dL_tells_23 (by decide) ?_
  obtain ⟨hg24, hf⟩ := gd_s hf
  refine lv_icmp_ne (tgt := 31) hx hb dL_tells_24 (by decide) (fun c24 => absurd hg24 c24) (fun c24 => ?_)
  refine lv_iconst (v := 1) hx hb dL_tells_27 (by decide) ?_
  refine lv_goto (tgt := 32) hx hb dL_tells_28 (by decide) ?_
  obtain rfl := o_ret hf
  exact k_zret (v := 1) hx hb hr hP hD hS rfl (Nat.le_of_ble_eq_true rfl) (Nat.le_of_ble_eq_true rfl) hlocks dL_tells_32
