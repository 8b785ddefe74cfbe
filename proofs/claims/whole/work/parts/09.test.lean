noncomputable def mX5_isDeep (a0 : Int32) : Option (Int32) :=
  if a0 < 1 then
  (some 0)
  else
  (if 3 < a0 then
  (some 0)
  else
  (some 1))
abbrev rmX5_isDeep : Room := { frames := 0, cells := 0, slots := 0, locals := 0 }
set_option maxRecDepth 100000 in
set_option maxHeartbeats 4000000 in
theorem cX5_isDeep (l : Launch) (D : va_G) (cy : Nat → ClassId) (sa : Nat → Nat) (ws : va_W) (sz : Nat) (a0 : Int32) (res : Int32) (hf : mX5_isDeep a0 = some res) : kMi l yX5_isDeep wsX5_isDeep rmX5_isDeep D cy sa (ws) sz [.int a0] res (ws) 0 0 := by
  refine kM_of (Qc := fun A => kQi D A res (ws)) (cc := cX5_isDeep) (maxL := 1) (ret := (some .boolean)) (by decide) rfl (Nat.le_of_ble_eq_true rfl) ?_
  intro p e s m below meth c A hx hb hml hr hts hown hlocks hin hA hP hD hS hE hsz ls hl
  have hown : s.vm.findClass RX5 = some m.cls := hown
  obtain ⟨H, hH0⟩ : ∃ H, H = s.heap := ⟨_, rfl⟩
  obtain ⟨locs, hlocs0⟩ : ∃ locs : List Loc, locs = [] := ⟨_, rfl⟩
  have hP : va_P D vwCl (ws) H := by rw [hH0]; exact hP
  have hS : va_S A s.heap H locs := by rw [hH0, hlocs0]; exact hS
  have hl : lv_has ls 1 [(0, .int a0)] := hl
  suffices hgoal : W p l e (headSpec wsX5_isDeep (rmX5_isDeep)).room s m ([.int a0] : List Value).toArray below meth c H locs 0 0 (MQ below (kQi D A res (ws)) ([.int a0] : List Value).toArray s 0 0 A) (F0 m 0 ls []) by rw [hH0, hlocs0] at hgoal; exact hgoal
  clear hH0 hlocs0
  unfold mX5_isDeep at hf
  refine lv_iload_n hx hb dX5_isDeep_0 rfl (lv_at hl 0 rfl) ?_
  refine lv_iconst (v := 1) hx hb dX5_isDeep_1 (by decide) ?_
  refine lv_icmp_lt (tgt := 14) hx hb dX5_isDeep_2 (by decide) (fun c2 => ?_) (fun c2 => ?_)
  · have hf := o_ip c2 hf
    refine lv_iconst (v := 0) hx hb dX5_isDeep_14 (by decide) ?_
    obtain rfl := o_ret hf
    exact k_zret hx hb hr hP hD hS rfl (Nat.zero_le _) (Nat.zero_le _) hlocks dX5_isDeep_15
  · have hf := o_in c2 hf
    refine lv_iload_n hx hb dX5_isDeep_5 rfl (lv_at hl 0 rfl) ?_
    refine lv_iconst (v := 3) hx hb dX5_isDeep_6 (by decide) ?_
    refine lv_icmp_gt (tgt := 14) hx hb dX5_isDeep_7 (by decide) (fun c7 => ?_) (fun c7 => ?_)
    · have hf := o_ip c7 hf
      refine lv_iconst (v := 0) hx hb dX5_isDeep_14 (by decide) ?_
      obtain rfl := o_ret hf
      exact k_zret hx hb hr hP hD hS rfl (Nat.zero_le _) (Nat.zero_le _) hlocks dX5_isDeep_15
    · have hf := o_in c7 hf
      refine lv_iconst (v := 1) hx hb dX5_isDeep_10 (by decide) ?_
      refine lv_goto (tgt := 15) hx hb dX5_isDeep_11 (by decide) ?_
      obtain rfl := o_ret hf
      exact k_zret hx hb hr hP hD hS rfl (Nat.zero_le _) (Nat.zero_le _) hlocks dX5_isDeep_15
noncomputable def mX5_at (n0 : Nat) (f0 : Nat → Int32) (a1 : Int32) : Option (Int32) :=
  if a1 < 0 then
  (some 0)
  else
  (if (Int32.ofNat n0) ≤ a1 then
  (some 0)
  else
  (gd (inb a1 n0) (some (f0 (a1.toNatClampNeg)))))
abbrev rmX5_at : Room := { frames := 0, cells := 0, slots := 0, locals := 0 }
set_option maxRecDepth 100000 in
set_option maxHeartbeats 4000000 in
theorem cX5_at (l : Launch) (D : va_G) (cy : Nat → ClassId) (sa : Nat → Nat) (ws : va_W) (sz : Nat) (k0 d0 n0 : Nat) (f0 : Nat → Int32) (a1 : Int32) (res : Int32) (ha0 : ws[k0]? = some (kII d0 (cy 0) n0 f0)) (hf : mX5_at n0 f0 a1 = some res) : kMi l yX5_at wsX5_at rmX5_at D cy sa (ws) sz [.ref d0, .int a1] res (ws) 0 0 := by
  refine kM_of (Qc := fun A => kQi D A res (ws)) (cc := cX5_at) (maxL := 2) (ret := (some .int)) (by decide) rfl (Nat.le_of_ble_eq_true rfl) ?_
  intro p e s m below meth c A hx hb hml hr hts hown hlocks hin hA hP hD hS hE hsz ls hl
  have hown : s.vm.findClass RX5 = some m.cls := hown
  obtain ⟨H, hH0⟩ : ∃ H, H = s.heap := ⟨_, rfl⟩
  obtain ⟨locs, hlocs0⟩ : ∃ locs : List Loc, locs = [] := ⟨_, rfl⟩
  have hP : va_P D vwCl (ws) H := by rw [hH0]; exact hP
  have hS : va_S A s.heap H locs := by rw [hH0, hlocs0]; exact hS
  have hl : lv_has ls 2 [(0, .ref d0), (1, .int a1)] := hl
  suffices hgoal : W p l e (headSpec wsX5_at (rmX5_at)).room s m ([.ref d0, .int a1] : List Value).toArray below meth c H locs 0 0 (MQ below (kQi D A res (ws)) ([.ref d0, .int a1] : List Value).toArray s 0 0 A) (F0 m 0 ls []) by rw [hH0, hlocs0] at hgoal; exact hgoal
  clear hH0 hlocs0
  unfold mX5_at at hf
  refine lv_aload_n hx hb dX5_at_0 rfl (lv_at hl 0 rfl) ?_
  refine lv_ifnull hx hb dX5_at_1 ?_
  refine lv_iload_n hx hb dX5_at_4 rfl (lv_at hl 1 rfl) ?_
  refine lv_if_lt (tgt := 20) hx hb dX5_at_5 (by decide) (fun c5 => ?_) (fun c5 => ?_)
  · have hf := o_ip c5 hf
    refine lv_iconst (v := 0) hx hb dX5_at_20 (by decide) ?_
    obtain rfl := o_ret hf
    exact k_iret hx hb hr hP hD hS (Nat.zero_le _) (Nat.zero_le _) hlocks dX5_at_21
  · have hf := o_in c5 hf
    refine lv_iload_n hx hb dX5_at_8 rfl (lv_at hl 1 rfl) ?_
    refine lv_aload_n hx hb dX5_at_9 rfl (lv_at hl 0 rfl) ?_
    refine va_alen (v := (Int32.ofNat n0)) hx hb hE.1 hP k0 0 ha0 rfl rfl dX5_at_10 ?_
    refine lv_icmp_ge (tgt := 20) hx hb dX5_at_11 (by decide) (fun c11 => ?_) (fun c11 => ?_)
    · have hf := o_ip c11 hf
      refine lv_iconst (v := 0) hx hb dX5_at_20 (by decide) ?_
      obtain rfl := o_ret hf
      exact k_iret hx hb hr hP hD hS (Nat.zero_le _) (Nat.zero_le _) hlocks dX5_at_21
    · have hf := o_in c11 hf
      refine lv_aload_n hx hb dX5_at_14 rfl (lv_at hl 0 rfl) ?_
      refine lv_iload_n hx hb dX5_at_15 rfl (lv_at hl 1 rfl) ?_
      obtain ⟨hg16, hf⟩ := gd_s hf
      refine va_iald (f := f0) hx hb hE.1 hP k0 0 ha0 rfl hg16 dX5_at_16 ?_
      refine lv_goto (tgt := 21) hx hb dX5_at_17 (by decide) ?_
      obtain rfl := o_ret hf
      exact k_iret hx hb hr hP hD hS (Nat.zero_le _) (Nat.zero_le _) hlocks dX5_at_21
noncomputable def mX5_set (n0 : Nat) (f0 : Nat → Int32) (a1 : Int32) (a2 : Int32) : Option (((Nat → Int32))) :=
  if a1 < 0 then
  (some f0)
  else
  (if (Int32.ofNat n0) ≤ a1 then
  (some f0)
  else
  (gd (inb a1 n0) (some (upd f0 (a1.toNatClampNeg) a2))))
abbrev rmX5_set : Room := { frames := 0, cells := 0, slots := 0, locals := 0 }
set_option maxRecDepth 100000 in
set_option maxHeartbeats 4000000 in
theorem cX5_set (l : Launch) (D : va_G) (cy : Nat → ClassId) (sa : Nat → Nat) (ws : va_W) (sz : Nat) (k0 d0 n0 : Nat) (f0 : Nat → Int32) (a1 : Int32) (a2 : Int32) (res : ((Nat → Int32))) (ha0 : ws[k0]? = some (kII d0 (cy 0) n0 f0)) (hf : mX5_set n0 f0 a1 a2 = some res) : kMv l yX5_set wsX5_set rmX5_set D cy sa (ws) sz [.ref d0, .int a1, .int a2] ((ws.set k0 (kII d0 (cy 0) n0 res))) 0 0 := by
  refine kM_of (Qc := fun A => kQv D A ((ws.set k0 (kII d0 (cy 0) n0 res)))) (cc := cX5_set) (maxL := 3) (ret := none) (by decide) rfl (Nat.le_of_ble_eq_true rfl) ?_
  intro p e s m below meth c A hx hb hml hr hts hown hlocks hin hA hP hD hS hE hsz ls hl
  have hown : s.vm.findClass RX5 = some m.cls := hown
  obtain ⟨H, hH0⟩ : ∃ H, H = s.heap := ⟨_, rfl⟩
  obtain ⟨locs, hlocs0⟩ : ∃ locs : List Loc, locs = [] := ⟨_, rfl⟩
  have hP : va_P D vwCl (ws) H := by rw [hH0]; exact hP
  have hS : va_S A s.heap H locs := by rw [hH0, hlocs0]; exact hS
  have hl : lv_has ls 3 [(0, .ref d0), (1, .int a1), (2, .int a2)] := hl
  suffices hgoal : W p l e (headSpec wsX5_set (rmX5_set)).room s m ([.ref d0, .int a1, .int a2] : List Value).toArray below meth c H locs 0 0 (MQ below (kQv D A ((ws.set k0 (kII d0 (cy 0) n0 res)))) ([.ref d0, .int a1, .int a2] : List Value).toArray s 0 0 A) (F0 m 0 ls []) by rw [hH0, hlocs0] at hgoal; exact hgoal
  clear hH0 hlocs0
  unfold mX5_set at hf
  refine lv_aload_n hx hb dX5_set_0 rfl (lv_at hl 0 rfl) ?_
  refine lv_ifnull hx hb dX5_set_1 ?_
  refine lv_iload_n hx hb dX5_set_4 rfl (lv_at hl 1 rfl) ?_
  refine lv_if_lt (tgt := 18) hx hb dX5_set_5 (by decide) (fun c5 => ?_) (fun c5 => ?_)
  · have hf := o_ip c5 hf
    have hP : va_P D vwCl ((ws.set k0 (kII d0 (cy 0) n0 f0))) H := by rw [k_setself ha0]; exact hP
    have hD : va_D A ((ws.set k0 (kII d0 (cy 0) n0 f0))) := by rw [k_setself ha0]; exact hD
    obtain rfl := o_ret hf
    exact k_vret hx hb hr hP hD hS (Nat.zero_le _) (Nat.zero_le _) hlocks dX5_set_18
  · have hf := o_in c5 hf
    refine lv_iload_n hx hb dX5_set_8 rfl (lv_at hl 1 rfl) ?_
    refine lv_aload_n hx hb dX5_set_9 rfl (lv_at hl 0 rfl) ?_
    refine va_alen (v := (Int32.ofNat n0)) hx hb hE.1 hP k0 0 ha0 rfl rfl dX5_set_10 ?_
    refine lv_icmp_ge (tgt := 18) hx hb dX5_set_11 (by decide) (fun c11 => ?_) (fun c11 => ?_)
    · have hf := o_ip c11 hf
      have hP : va_P D vwCl ((ws.set k0 (kII d0 (cy 0) n0 f0))) H := by rw [k_setself ha0]; exact hP
      have hD : va_D A ((ws.set k0 (kII d0 (cy 0) n0 f0))) := by rw [k_setself ha0]; exact hD
      obtain rfl := o_ret hf
      exact k_vret hx hb hr hP hD hS (Nat.zero_le _) (Nat.zero_le _) hlocks dX5_set_18
    · have hf := o_in c11 hf
      refine lv_aload_n hx hb dX5_set_14 rfl (lv_at hl 0 rfl) ?_
      refine lv_iload_n hx hb dX5_set_15 rfl (lv_at hl 1 rfl) ?_
      refine lv_iload_n hx hb dX5_set_16 rfl (lv_at hl 2 rfl) ?_
      obtain ⟨hg17, hf⟩ := gd_s hf
      refine va_iast (f := f0) hx hb hE.1 hP hD hS k0 0 ha0 rfl hg17 dX5_set_17 (fun H locs hP hD hS => ?_)
      have hP : va_P D vwCl ((ws.set k0 (kII d0 (cy 0) n0 (upd f0 (a1.toNatClampNeg) a2)))) H := hP
      have hD : va_D A ((ws.set k0 (kII d0 (cy 0) n0 (upd f0 (a1.toNatClampNeg) a2)))) := hD
      obtain rfl := o_ret hf
      exact k_vret hx hb hr hP hD hS (Nat.zero_le _) (Nat.zero_le _) hlocks dX5_set_18
noncomputable def mX1_write_s2 (n0 : Nat) (c1 : Int64) (s2 : Int32 × ((Nat → Int64))) : Option ((((Nat → Int64))) ⊕ (Int32 × ((Nat → Int64)))) :=
  if (Int32.ofNat n0) ≤ s2.1 then
  (some (.inl s2.2))
  else
  (gd (inb s2.1 n0) (some (.inr ((s2.1 + 1), (vp_updL s2.2 (s2.1.toNatClampNeg) ((c1 >>> ((30 * s2.1).toInt64 &&& 63)) &&& 1073741823))))))
noncomputable def mX1_write (n0 : Nat) (f0 : Nat → Int64) (a1 : Int64) : Option (((Nat → Int64))) :=
  (lpF (mX1_write_s2 n0 a1) (0, f0)).bind fun e2 =>
  some e2
theorem fX1_write_cl35 : Cond.constantLong RX1 35 (1073741823) ∈ wsX1_write := List.mem_of_getElem? (i := 1) (by rfl)
abbrev rmX1_write : Room := { frames := 0, cells := 0, slots := 0, locals := 0 }
set_option maxRecDepth 100000 in
set_option maxHeartbeats 4000000 in
theorem cX1_write (l : Launch) (D : va_G) (cy : Nat → ClassId) (sa : Nat → Nat) (ws : va_W) (sz : Nat) (k0 d0 n0 : Nat) (f0 : Nat → Int64) (a1 : Int64) (res : ((Nat → Int64))) (ha0 : ws[k0]? = some (kIJ d0 (cy 1) n0 f0)) (hf : mX1_write n0 f0 a1 = some res) : kMv l yX1_write wsX1_write rmX1_write D cy sa (ws) sz [.ref d0, .long a1] ((ws.set k0 (kIJ d0 (cy 1) n0 res))) 0 0 := by
  refine kM_of (Qc := fun A => kQv D A ((ws.set k0 (kIJ d0 (cy 1) n0 res)))) (cc := cX1_write) (maxL := 4) (ret := none) (by decide) rfl (Nat.le_of_ble_eq_true rfl) ?_
  intro p e s m below meth c A hx hb hml hr hts hown hlocks hin hA hP hD hS hE hsz ls hl
  have hown : s.vm.findClass RX1 = some m.cls := hown
  obtain ⟨H, hH0⟩ : ∃ H, H = s.heap := ⟨_, rfl⟩
  obtain ⟨locs, hlocs0⟩ : ∃ locs : List Loc, locs = [] := ⟨_, rfl⟩
  have hP : va_P D vwCl (ws) H := by rw [hH0]; exact hP
  have hS : va_S A s.heap H locs := by rw [hH0, hlocs0]; exact hS
  have hl : lv_has ls 4 [(0, .ref d0), (1, .long a1)] := hl
  suffices hgoal : W p l e (headSpec wsX1_write (rmX1_write)).room s m ([.ref d0, .long a1] : List Value).toArray below meth c H locs 0 0 (MQ below (kQv D A ((ws.set k0 (kIJ d0 (cy 1) n0 res)))) ([.ref d0, .long a1] : List Value).toArray s 0 0 A) (F0 m 0 ls []) by rw [hH0, hlocs0] at hgoal; exact hgoal
  clear hH0 hlocs0
  unfold mX1_write at hf
  refine lv_iconst (v := 0) hx hb dX1_write_0 (by decide) ?_
  refine lv_istore_n (lv' := [(3, .int 0), (0, .ref d0), (1, .long a1)]) hx hb dX1_write_1 rfl hl (by decide) rfl (fun ls hl => ?_)
  have hP : va_P D vwCl ((ws.set k0 (kIJ d0 (cy 1) n0 f0))) H := by rw [k_setself ha0]; exact hP
  have hD : va_D A ((ws.set k0 (kIJ d0 (cy 1) n0 f0))) := by rw [k_setself ha0]; exact hD
  have L2 : ∀ (n2v : Nat) (s2 : Int32 × ((Nat → Int64))) (e2 : ((Nat → Int64))), lpO (mX1_write_s2 n0 a1) n2v s2 = some e2 → ∀ (H : Heap) (locs : List Loc) (ls : Array Slot), va_P D vwCl ((ws.set k0 (kIJ d0 (cy 1) n0 s2.2))) H → va_D A ((ws.set k0 (kIJ d0 (cy 1) n0 s2.2))) → va_S A s.heap H locs → lv_has ls 4 [(0, .ref d0), (1, .long a1), (3, .int s2.1)] → (∀ (H : Heap) (locs : List Loc) (ls : Array Slot), va_P D vwCl ((ws.set k0 (kIJ d0 (cy 1) n0 e2))) H → va_D A ((ws.set k0 (kIJ d0 (cy 1) n0 e2))) → va_S A s.heap H locs → lv_has ls 4 [] → W p l e (headSpec wsX1_write (rmX1_write)).room s m ([.ref d0, .long a1] : List Value).toArray below meth c H locs 0 0 (MQ below (kQv D A ((ws.set k0 (kIJ d0 (cy 1) n0 res)))) ([.ref d0, .long a1] : List Value).toArray s 0 0 A) (F0 m 27 ls [])) → W p l e (headSpec wsX1_write (rmX1_write)).room s m ([.ref d0, .long a1] : List Value).toArray below meth c H locs 0 0 (MQ below (kQv D A ((ws.set k0 (kIJ d0 (cy 1) n0 res)))) ([.ref d0, .long a1] : List Value).toArray s 0 0 A) (F0 m 2 ls []) := by
    intro n2v
    induction n2v with
    | zero => intro s2 e2 h; exact (lpO_z h).elim
    | succ n2v ih2 =>
      intro s2 e2 h2z H locs ls hP hD hS hl K2_0
      obtain ⟨x2, hf, h2z⟩ := lpO_s h2z
      unfold mX1_write_s2 at hf
      refine lv_iload_n hx hb dX1_write_2 rfl (lv_at hl 2 rfl) ?_
      refine lv_aload_n hx hb dX1_write_3 rfl (lv_at hl 0 rfl) ?_
      refine va_alen (v := (Int32.ofNat n0)) hx hb hE.1 hP k0 1 (k_gset ha0) rfl rfl dX1_write_4 ?_
      refine lv_icmp_ge (tgt := 27) hx hb dX1_write_5 (by decide) (fun c5 => ?_) (fun c5 => ?_)
      · have hf := o_ip c5 hf
        obtain rfl := o_ret hf
        obtain rfl := lpK_l h2z
        exact K2_0 _ _ _ hP hD hS (lv_sub hl [] rfl)
      · have hf := o_in c5 hf
        refine lv_aload_n hx hb dX1_write_8 rfl (lv_at hl 0 rfl) ?_
        refine lv_iload_n hx hb dX1_write_9 rfl (lv_at hl 2 rfl) ?_
        refine lv_lload_n hx hb dX1_write_10 rfl (lv_at hl 1 rfl) ?_
        refine lv_bipush (v := 30) hx hb dX1_write_11 (by decide) ?_
        refine lv_iload_n hx hb dX1_write_13 rfl (lv_at hl 2 rfl) ?_
        refine lv_imul hx hb dX1_write_14 ?_
        refine lv_lshr (v := (a1 >>> ((30 * s2.1).toInt64 &&& 63))) hx hb dX1_write_15 rfl ?_
        refine lv_ldc2 (v := 1073741823) hx hb hown (hts _ fX1_write_cl35) dX1_write_16 ?_
        refine lv_land hx hb dX1_write_19 ?_
        obtain ⟨hg20, hf⟩ := gd_s hf
        refine va_last (f := s2.2) hx hb hE.1 hP hD hS k0 1 (k_gset ha0) rfl hg20 dX1_write_20 (fun H locs hP hD hS => ?_)
        have hP : va_P D vwCl ((ws.set k0 (kIJ d0 (cy 1) n0 (vp_updL s2.2 (s2.1.toNatClampNeg) ((a1 >>> ((30 * s2.1).toInt64 &&& 63)) &&& 1073741823))))) H := by rw [List.set_set] at hP; exact hP
        have hD : va_D A ((ws.set k0 (kIJ d0 (cy 1) n0 (vp_updL s2.2 (s2.1.toNatClampNeg) ((a1 >>> ((30 * s2.1).toInt64 &&& 63)) &&& 1073741823))))) := by rw [List.set_set] at hD; exact hD
        refine lv_iinc (v := (s2.1 + 1)) (lv' := [(3, .int (s2.1 + 1)), (0, .ref d0), (1, .long a1)]) hx hb dX1_write_21 hl (k := 2) rfl (by rfl) (by decide) rfl (fun ls hl => ?_)
        refine lv_goto (tgt := 2) hx hb dX1_write_24 (by decide) ?_
        obtain rfl := o_ret hf
        exact ih2 _ _ (lpK_r h2z) _ _ _ hP hD hS (lv_sub hl [1, 2, 0] rfl) K2_0
  obtain ⟨e2, h2q, hf⟩ := o_bs hf
  obtain ⟨n2v, h2q⟩ := lpF_ex h2q
  refine L2 n2v _ e2 h2q _ _ _ hP hD hS (lv_sub hl [1, 2, 0] rfl) ?_
  intro H locs ls hP hD hS hl
  obtain rfl := o_ret hf
  exact k_vret hx hb hr hP hD hS (Nat.zero_le _) (Nat.zero_le _) hlocks dX1_write_27
noncomputable def mX5_bad (u : KS) : Option (Int32 × KS) :=
  some ((-2), (sR u 0 (upd (gR u 0) ((0 : Int32).toNatClampNeg) (((gR u 0) ((0 : Int32).toNatClampNeg)) + 1))))
theorem fX5_bad_48 : Cond.fieldLink RX5 48 "BlueSmoke" "refused" "[I" ∈ wsX5_bad := List.mem_of_getElem? (i := 1) (by rfl)
theorem uX5_bad_X5 : ∀ w ∈ u_ws RX5 TX5 9, w ∈ wsX5_bad := fun _ h => (List.mem_cons_of_mem _ (List.mem_append_right _ h))
abbrev rmX5_bad : Room := { frames := 0, cells := 0, slots := 0, locals := 0 }
set_option maxRecDepth 100000 in
set_option maxHeartbeats 4000000 in
theorem cX5_bad (l : Launch) (D : va_G) (cy : Nat → ClassId) (sa : Nat → Nat) (q : Nat → Nat) (rest : va_W) (sz : Nat) (u : KS) (res : Int32 × KS) (hf : mX5_bad u = some res) : kMi l yX5_bad wsX5_bad rmX5_bad D cy sa (WX q cy u ++ rest) sz [.ref (q 0)] res.1 (WX q cy res.2 ++ rest) 0 0 := by
  refine kM_of (Qc := fun A => kQi D A res.1 (WX q cy res.2 ++ rest)) (cc := cX5_bad) (maxL := 1) (ret := (some .int)) (by decide) rfl (Nat.le_of_ble_eq_true rfl) ?_
  intro p e s m below meth c A hx hb hml hr hts hown hlocks hin hA hP hD hS hE hsz ls hl
  have hown : s.vm.findClass RX5 = some m.cls := hown
  obtain ⟨H, hH0⟩ : ∃ H, H = s.heap := ⟨_, rfl⟩
  obtain ⟨locs, hlocs0⟩ : ∃ locs : List Loc, locs = [] := ⟨_, rfl⟩
  have hP : va_P D vwCl (WX q cy u ++ rest) H := by rw [hH0]; exact hP
  have hS : va_S A s.heap H locs := by rw [hH0, hlocs0]; exact hS
  have hl : lv_has ls 1 [(0, .ref (q 0))] := hl
  suffices hgoal : W p l e (headSpec wsX5_bad (rmX5_bad)).room s m ([.ref (q 0)] : List Value).toArray below meth c H locs 0 0 (MQ below (kQi D A res.1 (WX q cy res.2 ++ rest)) ([.ref (q 0)] : List Value).toArray s 0 0 A) (F0 m 0 ls []) by rw [hH0, hlocs0] at hgoal; exact hgoal
  clear hH0 hlocs0
  unfold mX5_bad at hf
  refine lv_aload_n hx hb dX5_bad_0 rfl (lv_at hl 0 rfl) ?_
  refine va_get (ci := 5) (v := .ref (q 2)) (C := RX5) (T := TX5) (N := 9) hx hb hts uX5_bad_X5 hown hE.1 hP 0 rfl rfl 6 (by decide) (hts _ fX5_bad_48) (fun _ h9 => h9) rfl dX5_bad_1 ?_
  refine lv_iconst (v := 0) hx hb dX5_bad_4 (by decide) ?_
  refine lv_dup2_11 hx hb dX5_bad_5 rfl rfl ?_
  refine va_iald (f := (gR u 0)) hx hb hE.1 hP 2 0 rfl rfl (k_in (by decide)) dX5_bad_6 ?_
  refine lv_iconst (v := 1) hx hb dX5_bad_7 (by decide) ?_
  refine lv_iadd hx hb dX5_bad_8 ?_
  refine va_iast (f := (gR u 0)) hx hb hE.1 hP hD hS 2 0 rfl rfl (k_in (by decide)) dX5_bad_9 (fun H locs hP hD hS => ?_)
  have hP : va_P D vwCl (WX q cy (sR u 0 (upd (gR u 0) ((0 : Int32).toNatClampNeg) (((gR u 0) ((0 : Int32).toNatClampNeg)) + 1))) ++ rest) H := hP
  have hD : va_D A (WX q cy (sR u 0 (upd (gR u 0) ((0 : Int32).toNatClampNeg) (((gR u 0) ((0 : Int32).toNatClampNeg)) + 1))) ++ rest) := hD
  refine lv_bipush (v := (-2)) hx hb dX5_bad_10 (by decide) ?_
  obtain rfl := o_ret hf
  exact k_iret hx hb hr hP hD hS (Nat.zero_le _) (Nat.zero_le _) hlocks dX5_bad_12
noncomputable def mX0_sortOf (a0 : Int32) : Option (Int32) :=
  if a0 = 32 then
  (some 0)
  else
  (if a0 < 97 then
  (if a0 < 48 then
  (some 3)
  else
  (if 57 < a0 then
  (some 3)
  else
  (some 2)))
  else
  (if 122 < a0 then
  (if a0 < 48 then
  (some 3)
  else
  (if 57 < a0 then
  (some 3)
  else
  (some 2)))
  else
  (some 1)))
abbrev rmX0_sortOf : Room := { frames := 0, cells := 0, slots := 0, locals := 0 }
set_option maxRecDepth 100000 in
set_option maxHeartbeats 4000000 in
theorem cX0_sortOf (l : Launch) (D : va_G) (cy : Nat → ClassId) (sa : Nat → Nat) (ws : va_W) (sz : Nat) (a0 : Int32) (res : Int32) (hf : mX0_sortOf a0 = some res) : kMi l yX0_sortOf wsX0_sortOf rmX0_sortOf D cy sa (ws) sz [.int a0] res (ws) 0 0 := by
  refine kM_of (Qc := fun A => kQi D A res (ws)) (cc := cX0_sortOf) (maxL := 1) (ret := (some .int)) (by decide) rfl (Nat.le_of_ble_eq_true rfl) ?_
  intro p e s m below meth c A hx hb hml hr hts hown hlocks hin hA hP hD hS hE hsz ls hl
  have hown : s.vm.findClass RX0 = some m.cls := hown
  obtain ⟨H, hH0⟩ : ∃ H, H = s.heap := ⟨_, rfl⟩
  obtain ⟨locs, hlocs0⟩ : ∃ locs : List Loc, locs = [] := ⟨_, rfl⟩
  have hP : va_P D vwCl (ws) H := by rw [hH0]; exact hP
  have hS : va_S A s.heap H locs := by rw [hH0, hlocs0]; exact hS
  have hl : lv_has ls 1 [(0, .int a0)] := hl
  suffices hgoal : W p l e (headSpec wsX0_sortOf (rmX0_sortOf)).room s m ([.int a0] : List Value).toArray below meth c H locs 0 0 (MQ below (kQi D A res (ws)) ([.int a0] : List Value).toArray s 0 0 A) (F0 m 0 ls []) by rw [hH0, hlocs0] at hgoal; exact hgoal
  clear hH0 hlocs0
  unfold mX0_sortOf at hf
  refine lv_iload_n hx hb dX0_sortOf_0 rfl (lv_at hl 0 rfl) ?_
  refine lv_bipush (v := 32) hx hb dX0_sortOf_1 (by decide) ?_
  refine lv_icmp_ne (tgt := 8) hx hb dX0_sortOf_3 (by decide) (fun c3 => ?_) (fun c3 => ?_)
  · have hf := o_in c3 hf
    refine lv_iload_n hx hb dX0_sortOf_8 rfl (lv_at hl 0 rfl) ?_
    refine lv_bipush (v := 97) hx hb dX0_sortOf_9 (by decide) ?_
    refine lv_icmp_lt (tgt := 22) hx hb dX0_sortOf_11 (by decide) (fun c11 => ?_) (fun c11 => ?_)
    · have hf := o_ip c11 hf
      refine lv_iload_n hx hb dX0_sortOf_22 rfl (lv_at hl 0 rfl) ?_
      refine lv_bipush (v := 48) hx hb dX0_sortOf_23 (by decide) ?_
      refine lv_icmp_lt (tgt := 38) hx hb dX0_sortOf_25 (by decide) (fun c25 => ?_) (fun c25 => ?_)
      · have hf := o_ip c25 hf
        refine lv_iconst (v := 3) hx hb dX0_sortOf_38 (by decide) ?_
        obtain rfl := o_ret hf
        exact k_iret hx hb hr hP hD hS (Nat.zero_le _) (Nat.zero_le _) hlocks dX0_sortOf_39
      · have hf := o_in c25 hf
        refine lv_iload_n hx hb dX0_sortOf_28 rfl (lv_at hl 0 rfl) ?_
        refine lv_bipush (v := 57) hx hb dX0_sortOf_29 (by decide) ?_
        refine lv_icmp_gt (tgt := 38) hx hb dX0_sortOf_31 (by decide) (fun c31 => ?_) (fun c31 => ?_)
        · have hf := o_ip c31 hf
          refine lv_iconst (v := 3) hx hb dX0_sortOf_38 (by decide) ?_
          obtain rfl := o_ret hf
          exact k_iret hx hb hr hP hD hS (Nat.zero_le _) (Nat.zero_le _) hlocks dX0_sortOf_39
        · have hf := o_in c31 hf
          refine lv_iconst (v := 2) hx hb dX0_sortOf_34 (by decide) ?_
          refine lv_goto (tgt := 39) hx hb dX0_sortOf_35 (by decide) ?_
          obtain rfl := o_ret hf
          exact k_iret hx hb hr hP hD hS (Nat.zero_le _) (Nat.zero_le _) hlocks dX0_sortOf_39
    · have hf := o_in c11 hf
      refine lv_iload_n hx hb dX0_sortOf_14 rfl (lv_at hl 0 rfl) ?_
      refine lv_bipush (v := 122) hx hb dX0_sortOf_15 (by decide) ?_
      refine lv_icmp_gt (tgt := 22) hx hb dX0_sortOf_17 (by decide) (fun c17 => ?_) (fun c17 => ?_)
      · have hf := o_ip c17 hf
        refine lv_iload_n hx hb dX0_sortOf_22 rfl (lv_at hl 0 rfl) ?_
        refine lv_bipush (v := 48) hx hb dX0_sortOf_23 (by decide) ?_
        refine lv_icmp_lt (tgt := 38) hx hb dX0_sortOf_25 (by decide) (fun c25 => ?_) (fun c25 => ?_)
        · have hf := o_ip c25 hf
          refine lv_iconst (v := 3) hx hb dX0_sortOf_38 (by decide) ?_
          obtain rfl := o_ret hf
          exact k_iret hx hb hr hP hD hS (Nat.zero_le _) (Nat.zero_le _) hlocks dX0_sortOf_39
        · have hf := o_in c25 hf
          refine lv_iload_n hx hb dX0_sortOf_28 rfl (lv_at hl 0 rfl) ?_
          refine lv_bipush (v := 57) hx hb dX0_sortOf_29 (by decide) ?_
          refine lv_icmp_gt (tgt := 38) hx hb dX0_sortOf_31 (by decide) (fun c31 => ?_) (fun c31 => ?_)
          · have hf := o_ip c31 hf
            refine lv_iconst (v := 3) hx hb dX0_sortOf_38 (by decide) ?_
            obtain rfl := o_ret hf
            exact k_iret hx hb hr hP hD hS (Nat.zero_le _) (Nat.zero_le _) hlocks dX0_sortOf_39
          · have hf := o_in c31 hf
            refine lv_iconst (v := 2) hx hb dX0_sortOf_34 (by decide) ?_
            refine lv_goto (tgt := 39) hx hb dX0_sortOf_35 (by decide) ?_
            obtain rfl := o_ret hf
            exact k_iret hx hb hr hP hD hS (Nat.zero_le _) (Nat.zero_le _) hlocks dX0_sortOf_39
      · have hf := o_in c17 hf
        refine lv_iconst (v := 1) hx hb dX0_sortOf_20 (by decide) ?_
        obtain rfl := o_ret hf
        exact k_iret hx hb hr hP hD hS (Nat.zero_le _) (Nat.zero_le _) hlocks dX0_sortOf_21
  · have hf := o_ip c3 hf
    refine lv_iconst (v := 0) hx hb dX0_sortOf_6 (by decide) ?_
    obtain rfl := o_ret hf
    exact k_iret hx hb hr hP hD hS (Nat.zero_le _) (Nat.zero_le _) hlocks dX0_sortOf_7
noncomputable def mX0_tokenEnd_s14 (n0 : Nat) (f0 : Nat → Int32) (c2 : Int32) (c3 : Int32) (s14 : Int32) : Option ((Int32) ⊕ (Int32)) :=
  if c3 = 3 then
  (some (.inl s14))
  else
  (if c2 ≤ s14 then
  (some (.inl s14))
  else
  ((mX5_at n0 f0 s14).bind fun r28 =>
  (mX0_sortOf r28).bind fun r31 =>
  if r31 = c3 then
  (some (.inr (s14 + 1)))
  else
  (some (.inl s14))))
noncomputable def mX0_tokenEnd (n0 : Nat) (f0 : Nat → Int32) (a1 : Int32) (a2 : Int32) : Option (Int32) :=
  (mX5_at n0 f0 a1).bind fun r2 =>
  (mX0_sortOf r2).bind fun r5 =>
  (lpF (mX0_tokenEnd_s14 n0 f0 a2 r5) (a1 + 1)).bind fun e14 =>
  some e14
theorem fX0_tokenEnd_iRX5 : Cond.initialized RX5 ∈ wsX0_tokenEnd := List.mem_of_getElem? (i := 2) (by rfl)
theorem fX0_tokenEnd_st_X5_at : Cond.static yX5_at ∈ wsX0_tokenEnd := List.mem_of_getElem? (i := 1) (by rfl)
abbrev rmX0_tokenEnd : Room := { frames := 1, cells := 0, slots := 0, locals := 21 }
set_option maxRecDepth 100000 in
set_option maxHeartbeats 4000000 in
theorem cX0_tokenEnd (l : Launch) (D : va_G) (cy : Nat → ClassId) (sa : Nat → Nat) (ws : va_W) (sz : Nat) (k0 d0 n0 : Nat) (f0 : Nat → Int32) (a1 : Int32) (a2 : Int32) (res : Int32) (ha0 : ws[k0]? = some (kII d0 (cy 0) n0 f0)) (hf : mX0_tokenEnd n0 f0 a1 a2 = some res) : kMi l yX0_tokenEnd wsX0_tokenEnd rmX0_tokenEnd D cy sa (ws) sz [.ref d0, .int a1, .int a2] res (ws) 0 0 := by
  refine kM_of (Qc := fun A => kQi D A res (ws)) (cc := cX0_tokenEnd) (maxL := 5) (ret := (some .int)) (by decide) rfl (Nat.le_of_ble_eq_true rfl) ?_
  intro p e s m below meth c A hx hb hml hr hts hown hlocks hin hA hP hD hS hE hsz ls hl
  have hown : s.vm.findClass RX0 = some m.cls := hown
  obtain ⟨H, hH0⟩ : ∃ H, H = s.heap := ⟨_, rfl⟩
  obtain ⟨locs, hlocs0⟩ : ∃ locs : List Loc, locs = [] := ⟨_, rfl⟩
  have hP : va_P D vwCl (ws) H := by rw [hH0]; exact hP
  have hS : va_S A s.heap H locs := by rw [hH0, hlocs0]; exact hS
  have hl : lv_has ls 5 [(0, .ref d0), (1, .int a1), (2, .int a2)] := hl
  suffices hgoal : W p l e (headSpec wsX0_tokenEnd (rmX0_tokenEnd)).room s m ([.ref d0, .int a1, .int a2] : List Value).toArray below meth c H locs 0 0 (MQ below (kQi D A res (ws)) ([.ref d0, .int a1, .int a2] : List Value).toArray s 0 0 A) (F0 m 0 ls []) by rw [hH0, hlocs0] at hgoal; exact hgoal
  clear hH0 hlocs0
  unfold mX0_tokenEnd at hf
  refine lv_aload_n hx hb dX0_tokenEnd_0 rfl (lv_at hl 0 rfl) ?_
  refine lv_iload_n hx hb dX0_tokenEnd_1 rfl (lv_at hl 1 rfl) ?_
  obtain ⟨r2, h2r, hf⟩ := o_bs hf
  refine k_goi (va_runSN (As := [.ref d0, .int a1]) (rest := []) ⟨hx, hb, hml, hown, hts⟩ (cX5_at l D cy sa (ws) H.size k0 d0 n0 f0 a1 r2 ha0 h2r) ⟨va_cnB 2 hts gX0_tokenEnd_X5_at_n50 rfl rfl rfl (hE.2.1.1 _ (List.mem_of_getElem? (i := 4) rfl)) (hts _ fX0_tokenEnd_iRX5) (by decide +kernel) ⟨Nat.le_of_ble_eq_true rfl, Nat.le_of_ble_eq_true rfl⟩, hts _ fX0_tokenEnd_st_X5_at, trivial⟩ ⟨kP.blind, k_pre hP hD hS hE hA⟩ rfl rfl hl.1 rfl (lv_room (Nat.le_of_ble_eq_true rfl)) dX0_tokenEnd_2 ⟨Nat.zero_le _, Nat.zero_le _⟩) hD hS hA (fun H locs hP hD hS => ?_)
  obtain ⟨r5, h5r, hf⟩ := o_bs hf
  refine k_goi (va_runS (As := [.int r2]) (rest := []) ⟨hx, hb, hml, hown, hts⟩ (cX0_sortOf l D cy sa (ws) H.size r2 r5 h5r) (va_cwS 1 hts gX0_tokenEnd_X0_sortOf rfl rfl rfl (by decide +kernel) ⟨Nat.le_of_ble_eq_true rfl, Nat.le_of_ble_eq_true rfl⟩) ⟨kP.blind, k_pre hP hD hS hE hA⟩ rfl rfl hl.1 rfl (lv_room (Nat.le_of_ble_eq_true rfl)) dX0_tokenEnd_5 ⟨Nat.zero_le _, Nat.zero_le _⟩) hD hS hA (fun H locs hP hD hS => ?_)
  refine lv_istore_n (lv' := [(3, .int r5), (0, .ref d0), (1, .int a1), (2, .int a2)]) hx hb dX0_tokenEnd_8 rfl hl (by decide) rfl (fun ls hl => ?_)
  refine lv_iload_n hx hb dX0_tokenEnd_9 rfl (lv_at hl 2 rfl) ?_
  refine lv_iconst (v := 1) hx hb dX0_tokenEnd_10 (by decide) ?_
  refine lv_iadd hx hb dX0_tokenEnd_11 ?_
  refine lv_istore (lv' := [(4, .int (a1 + 1)), (3, .int r5), (0, .ref d0), (1, .int a1), (2, .int a2)]) hx hb dX0_tokenEnd_12 hl (by decide) rfl (fun ls hl => ?_)
  have L14 : ∀ (n14v : Nat) (s14 : Int32) (e14 : Int32), lpO (mX0_tokenEnd_s14 n0 f0 a2 r5) n14v s14 = some e14 → ∀ (H : Heap) (locs : List Loc) (ls : Array Slot), va_P D vwCl (ws) H → va_D A (ws) → va_S A s.heap H locs → lv_has ls 5 [(0, .ref d0), (2, .int a2), (3, .int r5), (4, .int s14)] → (∀ (H : Heap) (locs : List Loc) (ls : Array Slot), va_P D vwCl (ws) H → va_D A (ws) → va_S A s.heap H locs → lv_has ls 5 [(4, .int e14)] → W p l e (headSpec wsX0_tokenEnd (rmX0_tokenEnd)).room s m ([.ref d0, .int a1, .int a2] : List Value).toArray below meth c H locs 0 0 (MQ below (kQi D A res (ws)) ([.ref d0, .int a1, .int a2] : List Value).toArray s 0 0 A) (F0 m 44 ls [])) → W p l e (headSpec wsX0_tokenEnd (rmX0_tokenEnd)).room s m ([.ref d0, .int a1, .int a2] : List Value).toArray below meth c H locs 0 0 (MQ below (kQi D A res (ws)) ([.ref d0, .int a1, .int a2] : List Value).toArray s 0 0 A) (F0 m 14 ls []) := by
    intro n14v
    induction n14v with
    | zero => intro s14 e14 h; exact (lpO_z h).elim
    | succ n14v ih14 =>
      intro s14 e14 h14z H locs ls hP hD hS hl K14_0
      obtain ⟨x14, hf, h14z⟩ := lpO_s h14z
      unfold mX0_tokenEnd_s14 at hf
      refine lv_iload_n hx hb dX0_tokenEnd_14 rfl (lv_at hl 2 rfl) ?_
      refine lv_iconst (v := 3) hx hb dX0_tokenEnd_15 (by decide) ?_
      refine lv_icmp_eq (tgt := 44) hx hb dX0_tokenEnd_16 (by decide) (fun c16 => ?_) (fun c16 => ?_)
      · have hf := o_ip c16 hf
        obtain rfl := o_ret hf
        obtain rfl := lpK_l h14z
        exact K14_0 _ _ _ hP hD hS (lv_sub hl [3] rfl)
      · have hf := o_in c16 hf
        refine lv_iload hx hb dX0_tokenEnd_19 (lv_at hl 3 rfl) ?_
        refine lv_iload_n hx hb dX0_tokenEnd_21 rfl (lv_at hl 1 rfl) ?_
        refine lv_icmp_ge (tgt := 44) hx hb dX0_tokenEnd_22 (by decide) (fun c22 => ?_) (fun c22 => ?_)
        · have hf := o_ip c22 hf
          obtain rfl := o_ret hf
          obtain rfl := lpK_l h14z
          exact K14_0 _ _ _ hP hD hS (lv_sub hl [3] rfl)
        · have hf := o_in c22 hf
          refine lv_aload_n hx hb dX0_tokenEnd_25 rfl (lv_at hl 0 rfl) ?_
          refine lv_iload hx hb dX0_tokenEnd_26 (lv_at hl 3 rfl) ?_
          obtain ⟨r28, h28r, hf⟩ := o_bs hf
          refine k_goi (va_runSN (As := [.ref d0, .int s14]) (rest := []) ⟨hx, hb, hml, hown, hts⟩ (cX5_at l D cy sa (ws) H.size k0 d0 n0 f0 s14 r28 ha0 h28r) ⟨va_cnB 2 hts gX0_tokenEnd_X5_at_n50 rfl rfl rfl (hE.2.1.1 _ (List.mem_of_getElem? (i := 4) rfl)) (hts _ fX0_tokenEnd_iRX5) (by decide +kernel) ⟨Nat.le_of_ble_eq_true rfl, Nat.le_of_ble_eq_true rfl⟩, hts _ fX0_tokenEnd_st_X5_at, trivial⟩ ⟨kP.blind, k_pre hP hD hS hE hA⟩ rfl rfl hl.1 rfl (lv_room (Nat.le_of_ble_eq_true rfl)) dX0_tokenEnd_28 ⟨Nat.zero_le _, Nat.zero_le _⟩) hD hS hA (fun H locs hP hD hS => ?_)
          obtain ⟨r31, h31r, hf⟩ := o_bs hf
          refine k_goi (va_runS (As := [.int r28]) (rest := []) ⟨hx, hb, hml, hown, hts⟩ (cX0_sortOf l D cy sa (ws) H.size r28 r31 h31r) (va_cwS 1 hts gX0_tokenEnd_X0_sortOf rfl rfl rfl (by decide +kernel) ⟨Nat.le_of_ble_eq_true rfl, Nat.le_of_ble_eq_true rfl⟩) ⟨kP.blind, k_pre hP hD hS hE hA⟩ rfl rfl hl.1 rfl (lv_room (Nat.le_of_ble_eq_true rfl)) dX0_tokenEnd_31 ⟨Nat.zero_le _, Nat.zero_le _⟩) hD hS hA (fun H locs hP hD hS => ?_)
          refine lv_iload_n hx hb dX0_tokenEnd_34 rfl (lv_at hl 2 rfl) ?_
          refine lv_icmp_ne (tgt := 44) hx hb dX0_tokenEnd_35 (by decide) (fun c35 => ?_) (fun c35 => ?_)
          · have hf := o_in c35 hf
            obtain rfl := o_ret hf
            obtain rfl := lpK_l h14z
            exact K14_0 _ _ _ hP hD hS (lv_sub hl [3] rfl)
          · have hf := o_ip c35 hf
            refine lv_iinc (v := (s14 + 1)) (lv' := [(4, .int (s14 + 1)), (0, .ref d0), (2, .int a2), (3, .int r5)]) hx hb dX0_tokenEnd_38 hl (k := 3) rfl (by rfl) (by decide) rfl (fun ls hl => ?_)
            refine lv_goto (tgt := 14) hx hb dX0_tokenEnd_41 (by decide) ?_
            obtain rfl := o_ret hf
            exact ih14 _ _ (lpK_r h14z) _ _ _ hP hD hS (lv_sub hl [1, 2, 3, 0] rfl) K14_0
  obtain ⟨e14, h14q, hf⟩ := o_bs hf
  obtain ⟨n14v, h14q⟩ := lpF_ex h14q
  refine L14 n14v _ e14 h14q _ _ _ hP hD hS (lv_sub hl [2, 4, 1, 0] rfl) ?_
  intro H locs ls hP hD hS hl
  refine lv_iload hx hb dX0_tokenEnd_44 (lv_at hl 0 rfl) ?_
  obtain rfl := o_ret hf
  exact k_iret hx hb hr hP hD hS (Nat.zero_le _) (Nat.zero_le _) hlocks dX0_tokenEnd_46
