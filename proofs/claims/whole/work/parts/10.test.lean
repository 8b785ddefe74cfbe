noncomputable def mX5_isDeep (a0 : Int32) : Option (Int32) :=
  if a0 < 1 then
  (some 0)
  else
  (if 3 < a0 then
  (some 0)
  else
  (some 1))
abbrev rmX5_isDeep : Room := { frames := 0, cells := 0, slots := 0, locals := 0 }
set_option maxRecDepth 100000 in
set_option maxHeartbeats 4000000 in
theorem cX5_isDeep (l : Launch) (D : va_G) (cy : Nat → ClassId) (sa : Nat → Nat) (ws : va_W) (sz : Nat) (a0 : Int32) (res : Int32) (hf : mX5_isDeep a0 = some res) : kMi l yX5_isDeep (wsK yX5_isDeep cX5_isDeep 1 (some .boolean)) rmX5_isDeep D cy sa (ws) sz [.int a0] res (ws) 0 0 := by
  refine kM_of (Qc := fun A => kQi D A res (ws)) (cc := cX5_isDeep) (maxL := 1) (ret := (some .boolean)) (by decide) (Nat.le_of_ble_eq_true rfl) ?_
  intro p e s m below meth c A hx hb hml hr hts hown hlocks hin hA hP hD hS hE hsz ls hl
  have hown : s.vm.findClass RX5 = some m.cls := hown
  obtain ⟨H, hH0⟩ : ∃ H, H = s.heap := ⟨_, rfl⟩
  obtain ⟨locs, hlocs0⟩ : ∃ locs : List Loc, locs = [] := ⟨_, rfl⟩
  have hP : va_P D vwCl (ws) H := by rw [hH0]; exact hP
  have hS : va_S A s.heap H locs := by rw [hH0, hlocs0]; exact hS
  have hl : lv_has ls 1 [(0, .int a0)] := hl
  suffices hgoal : W p l e rmX5_isDeep s m ([.int a0] : List Value).toArray below meth c H locs 0 0 (MQ below (kQi D A res (ws)) ([.int a0] : List Value).toArray s 0 0 A) (F0 m 0 ls []) by rw [hH0, hlocs0] at hgoal; exact hgoal
  clear hH0 hlocs0
  unfold mX5_isDeep at hf
  refine lv_iload_n hx hb dX5_isDeep_0 rfl (lv_at hl 0 rfl) ?_
  refine lv_iconst (v := 1) hx hb dX5_isDeep_1 (by decide) ?_
  refine lv_icmp_lt (tgt := 14) hx hb dX5_isDeep_2 (by decide) (fun c2 => ?_) (fun c2 => ?_)
  · have hf := o_ip c2 hf
    refine lv_iconst (v := 0) hx hb dX5_isDeep_14 (by decide) ?_
    obtain rfl := o_ret hf
    exact k_zret hx hb hr hP hD hS rfl (Nat.zero_le _) (Nat.zero_le _) hlocks dX5_isDeep_15
  · have hf := o_in c2 hf
    refine lv_iload_n hx hb dX5_isDeep_5 rfl (lv_at hl 0 rfl) ?_
    refine lv_iconst (v := 3) hx hb dX5_isDeep_6 (by decide) ?_
    refine lv_icmp_gt (tgt := 14) hx hb dX5_isDeep_7 (by decide) (fun c7 => ?_) (fun c7 => ?_)
    · have hf := o_ip c7 hf
      refine lv_iconst (v := 0) hx hb dX5_isDeep_14 (by decide) ?_
      obtain rfl := o_ret hf
      exact k_zret hx hb hr hP hD hS rfl (Nat.zero_le _) (Nat.zero_le _) hlocks dX5_isDeep_15
    · have hf := o_in c7 hf
      refine lv_iconst (v := 1) hx hb dX5_isDeep_10 (by decide) ?_
      refine lv_goto (tgt := 15) hx hb dX5_isDeep_11 (by decide) ?_
      obtain rfl := o_ret hf
      exact k_zret hx hb hr hP hD hS rfl (Nat.zero_le _) (Nat.zero_le _) hlocks dX5_isDeep_15
noncomputable def mX5_at (n0 : Nat) (f0 : Nat → Int32) (a1 : Int32) : Option (Int32) :=
  if a1 < 0 then
  (some 0)
  else
  (if (Int32.ofNat n0) ≤ a1 then
  (some 0)
  else
  (gd (inb a1 n0) (some (f0 (a1.toNatClampNeg)))))
abbrev rmX5_at : Room := { frames := 0, cells := 0, slots := 0, locals := 0 }
set_option maxRecDepth 100000 in
set_option maxHeartbeats 4000000 in
theorem cX5_at (l : Launch) (D : va_G) (cy : Nat → ClassId) (sa : Nat → Nat) (ws : va_W) (sz : Nat) (k0 d0 n0 : Nat) (f0 : Nat → Int32) (a1 : Int32) (res : Int32) (ha0 : ws[k0]? = some (kII d0 (cy 0) n0 f0)) (hf : mX5_at n0 f0 a1 = some res) : kMi l yX5_at (wsK yX5_at cX5_at 2 (some .int)) rmX5_at D cy sa (ws) sz [.ref d0, .int a1] res (ws) 0 0 := by
  refine kM_of (Qc := fun A => kQi D A res (ws)) (cc := cX5_at) (maxL := 2) (ret := (some .int)) (by decide) (Nat.le_of_ble_eq_true rfl) ?_
  intro p e s m below meth c A hx hb hml hr hts hown hlocks hin hA hP hD hS hE hsz ls hl
  have hown : s.vm.findClass RX5 = some m.cls := hown
  obtain ⟨H, hH0⟩ : ∃ H, H = s.heap := ⟨_, rfl⟩
  obtain ⟨locs, hlocs0⟩ : ∃ locs : List Loc, locs = [] := ⟨_, rfl⟩
  have hP : va_P D vwCl (ws) H := by rw [hH0]; exact hP
  have hS : va_S A s.heap H locs := by rw [hH0, hlocs0]; exact hS
  have hl : lv_has ls 2 [(0, .ref d0), (1, .int a1)] := hl
  suffices hgoal : W p l e rmX5_at s m ([.ref d0, .int a1] : List Value).toArray below meth c H locs 0 0 (MQ below (kQi D A res (ws)) ([.ref d0, .int a1] : List Value).toArray s 0 0 A) (F0 m 0 ls []) by rw [hH0, hlocs0] at hgoal; exact hgoal
  clear hH0 hlocs0
  unfold mX5_at at hf
  refine lv_aload_n hx hb dX5_at_0 rfl (lv_at hl 0 rfl) ?_
  refine lv_ifnull hx hb dX5_at_1 ?_
  refine lv_iload_n hx hb dX5_at_4 rfl (lv_at hl 1 rfl) ?_
  refine lv_if_lt (tgt := 20) hx hb dX5_at_5 (by decide) (fun c5 => ?_) (fun c5 => ?_)
  · have hf := o_ip c5 hf
    refine lv_iconst (v := 0) hx hb dX5_at_20 (by decide) ?_
    obtain rfl := o_ret hf
    exact k_iret hx hb hr hP hD hS (Nat.zero_le _) (Nat.zero_le _) hlocks dX5_at_21
  · have hf := o_in c5 hf
    refine lv_iload_n hx hb dX5_at_8 rfl (lv_at hl 1 rfl) ?_
    refine lv_aload_n hx hb dX5_at_9 rfl (lv_at hl 0 rfl) ?_
    refine va_alen (v := (Int32.ofNat n0)) hx hb hE.1 hP k0 0 ha0 rfl rfl dX5_at_10 ?_
    refine lv_icmp_ge (tgt := 20) hx hb dX5_at_11 (by decide) (fun c11 => ?_) (fun c11 => ?_)
    · have hf := o_ip c11 hf
      refine lv_iconst (v := 0) hx hb dX5_at_20 (by decide) ?_
      obtain rfl := o_ret hf
      exact k_iret hx hb hr hP hD hS (Nat.zero_le _) (Nat.zero_le _) hlocks dX5_at_21
    · have hf := o_in c11 hf
      refine lv_aload_n hx hb dX5_at_14 rfl (lv_at hl 0 rfl) ?_
      refine lv_iload_n hx hb dX5_at_15 rfl (lv_at hl 1 rfl) ?_
      obtain ⟨hg16, hf⟩ := gd_s hf
      refine va_iald (f := f0) hx hb hE.1 hP k0 0 ha0 rfl hg16 dX5_at_16 ?_
      refine lv_goto (tgt := 21) hx hb dX5_at_17 (by decide) ?_
      obtain rfl := o_ret hf
      exact k_iret hx hb hr hP hD hS (Nat.zero_le _) (Nat.zero_le _) hlocks dX5_at_21
noncomputable def mX5_set (n0 : Nat) (f0 : Nat → Int32) (a1 : Int32) (a2 : Int32) : Option (((Nat → Int32))) :=
  if a1 < 0 then
  (some f0)
  else
  (if (Int32.ofNat n0) ≤ a1 then
  (some f0)
  else
  (gd (inb a1 n0) (some (upd f0 (a1.toNatClampNeg) a2))))
abbrev rmX5_set : Room := { frames := 0, cells := 0, slots := 0, locals := 0 }
set_option maxRecDepth 100000 in
set_option maxHeartbeats 4000000 in
theorem cX5_set (l : Launch) (D : va_G) (cy : Nat → ClassId) (sa : Nat → Nat) (ws : va_W) (sz : Nat) (k0 d0 n0 : Nat) (f0 : Nat → Int32) (a1 : Int32) (a2 : Int32) (res : ((Nat → Int32))) (ha0 : ws[k0]? = some (kII d0 (cy 0) n0 f0)) (hf : mX5_set n0 f0 a1 a2 = some res) : kMv l yX5_set (wsK yX5_set cX5_set 3 none) rmX5_set D cy sa (ws) sz [.ref d0, .int a1, .int a2] ((ws.set k0 (kII d0 (cy 0) n0 res))) 0 0 := by
  refine kM_of (Qc := fun A => kQv D A ((ws.set k0 (kII d0 (cy 0) n0 res)))) (cc := cX5_set) (maxL := 3) (ret := none) (by decide) (Nat.le_of_ble_eq_true rfl) ?_
  intro p e s m below meth c A hx hb hml hr hts hown hlocks hin hA hP hD hS hE hsz ls hl
  have hown : s.vm.findClass RX5 = some m.cls := hown
  obtain ⟨H, hH0⟩ : ∃ H, H = s.heap := ⟨_, rfl⟩
  obtain ⟨locs, hlocs0⟩ : ∃ locs : List Loc, locs = [] := ⟨_, rfl⟩
  have hP : va_P D vwCl (ws) H := by rw [hH0]; exact hP
  have hS : va_S A s.heap H locs := by rw [hH0, hlocs0]; exact hS
  have hl : lv_has ls 3 [(0, .ref d0), (1, .int a1), (2, .int a2)] := hl
  suffices hgoal : W p l e rmX5_set s m ([.ref d0, .int a1, .int a2] : List Value).toArray below meth c H locs 0 0 (MQ below (kQv D A ((ws.set k0 (kII d0 (cy 0) n0 res)))) ([.ref d0, .int a1, .int a2] : List Value).toArray s 0 0 A) (F0 m 0 ls []) by rw [hH0, hlocs0] at hgoal; exact hgoal
  clear hH0 hlocs0
  unfold mX5_set at hf
  refine lv_aload_n hx hb dX5_set_0 rfl (lv_at hl 0 rfl) ?_
  refine lv_ifnull hx hb dX5_set_1 ?_
  refine lv_iload_n hx hb dX5_set_4 rfl (lv_at hl 1 rfl) ?_
  refine lv_if_lt (tgt := 18) hx hb dX5_set_5 (by decide) (fun c5 => ?_) (fun c5 => ?_)
  · have hf := o_ip c5 hf
    have hP : va_P D vwCl ((ws.set k0 (kII d0 (cy 0) n0 f0))) H := by rw [k_setself ha0]; exact hP
    have hD : va_D A ((ws.set k0 (kII d0 (cy 0) n0 f0))) := by rw [k_setself ha0]; exact hD
    obtain rfl := o_ret hf
    exact k_vret hx hb hr hP hD hS (Nat.zero_le _) (Nat.zero_le _) hlocks dX5_set_18
  · have hf := o_in c5 hf
    refine lv_iload_n hx hb dX5_set_8 rfl (lv_at hl 1 rfl) ?_
    refine lv_aload_n hx hb dX5_set_9 rfl (lv_at hl 0 rfl) ?_
    refine va_alen (v := (Int32.ofNat n0)) hx hb hE.1 hP k0 0 ha0 rfl rfl dX5_set_10 ?_
    refine lv_icmp_ge (tgt := 18) hx hb dX5_set_11 (by decide) (fun c11 => ?_) (fun c11 => ?_)
    · have hf := o_ip c11 hf
      have hP : va_P D vwCl ((ws.set k0 (kII d0 (cy 0) n0 f0))) H := by rw [k_setself ha0]; exact hP
      have hD : va_D A ((ws.set k0 (kII d0 (cy 0) n0 f0))) := by rw [k_setself ha0]; exact hD
      obtain rfl := o_ret hf
      exact k_vret hx hb hr hP hD hS (Nat.zero_le _) (Nat.zero_le _) hlocks dX5_set_18
    · have hf := o_in c11 hf
      refine lv_aload_n hx hb dX5_set_14 rfl (lv_at hl 0 rfl) ?_
      refine lv_iload_n hx hb dX5_set_15 rfl (lv_at hl 1 rfl) ?_
      refine lv_iload_n hx hb dX5_set_16 rfl (lv_at hl 2 rfl) ?_
      obtain ⟨hg17, hf⟩ := gd_s hf
      refine va_iast (f := f0) hx hb hE.1 hP hD hS k0 0 ha0 rfl hg17 dX5_set_17 (fun H locs hP hD hS => ?_)
      have hP : va_P D vwCl ((ws.set k0 (kII d0 (cy 0) n0 (upd f0 (a1.toNatClampNeg) a2)))) H := hP
      have hD : va_D A ((ws.set k0 (kII d0 (cy 0) n0 (upd f0 (a1.toNatClampNeg) a2)))) := hD
      obtain rfl := o_ret hf
      exact k_vret hx hb hr hP hD hS (Nat.zero_le _) (Nat.zero_le _) hlocks dX5_set_18
noncomputable def mX1_write_s2 (n0 : Nat) (c1 : Int64) (s2 : Int32 × ((Nat → Int64))) : Option ((((Nat → Int64))) ⊕ (Int32 × ((Nat → Int64)))) :=
  if (Int32.ofNat n0) ≤ s2.1 then
  (some (.inl s2.2))
  else
  (gd (inb s2.1 n0) (some (.inr ((s2.1 + 1), (vp_updL s2.2 (s2.1.toNatClampNeg) ((c1 >>> ((30 * s2.1).toInt64 &&& 63)) &&& 1073741823))))))
noncomputable def mX1_write (n0 : Nat) (f0 : Nat → Int64) (a1 : Int64) : Option (((Nat → Int64))) :=
  (lpF (mX1_write_s2 n0 a1) (0, f0)).bind fun e2 =>
  some e2
abbrev rmX1_write : Room := { frames := 0, cells := 0, slots := 0, locals := 0 }
set_option maxRecDepth 100000 in
set_option maxHeartbeats 4000000 in
theorem cX1_write (l : Launch) (D : va_G) (cy : Nat → ClassId) (sa : Nat → Nat) (ws : va_W) (sz : Nat) (k0 d0 n0 : Nat) (f0 : Nat → Int64) (a1 : Int64) (res : ((Nat → Int64))) (ha0 : ws[k0]? = some (kIJ d0 (cy 1) n0 f0)) (hf : mX1_write n0 f0 a1 = some res) : kMv l yX1_write (wsK yX1_write cX1_write 4 none) rmX1_write D cy sa (ws) sz [.ref d0, .long a1] ((ws.set k0 (kIJ d0 (cy 1) n0 res))) 0 0 := by
  refine kM_of (Qc := fun A => kQv D A ((ws.set k0 (kIJ d0 (cy 1) n0 res)))) (cc := cX1_write) (maxL := 4) (ret := none) (by decide) (Nat.le_of_ble_eq_true rfl) ?_
  intro p e s m below meth c A hx hb hml hr hts hown hlocks hin hA hP hD hS hE hsz ls hl
  have hown : s.vm.findClass RX1 = some m.cls := hown
  obtain ⟨H, hH0⟩ : ∃ H, H = s.heap := ⟨_, rfl⟩
  obtain ⟨locs, hlocs0⟩ : ∃ locs : List Loc, locs = [] := ⟨_, rfl⟩
  have hP : va_P D vwCl (ws) H := by rw [hH0]; exact hP
  have hS : va_S A s.heap H locs := by rw [hH0, hlocs0]; exact hS
  have hl : lv_has ls 4 [(0, .ref d0), (1, .long a1)] := hl
  suffices hgoal : W p l e rmX1_write s m ([.ref d0, .long a1] : List Value).toArray below meth c H locs 0 0 (MQ below (kQv D A ((ws.set k0 (kIJ d0 (cy 1) n0 res)))) ([.ref d0, .long a1] : List Value).toArray s 0 0 A) (F0 m 0 ls []) by rw [hH0, hlocs0] at hgoal; exact hgoal
  clear hH0 hlocs0
  unfold mX1_write at hf
  refine lv_iconst (v := 0) hx hb dX1_write_0 (by decide) ?_
  refine lv_istore_n (lv' := [(3, .int 0), (0, .ref d0), (1, .long a1)]) hx hb dX1_write_1 rfl hl (by decide) rfl (fun ls hl => ?_)
  have hP : va_P D vwCl ((ws.set k0 (kIJ d0 (cy 1) n0 f0))) H := by rw [k_setself ha0]; exact hP
  have hD : va_D A ((ws.set k0 (kIJ d0 (cy 1) n0 f0))) := by rw [k_setself ha0]; exact hD
  have L2 : ∀ (n2v : Nat) (s2 : Int32 × ((Nat → Int64))) (e2 : ((Nat → Int64))), lpO (mX1_write_s2 n0 a1) n2v s2 = some e2 → ∀ (H : Heap) (locs : List Loc) (ls : Array Slot), va_P D vwCl ((ws.set k0 (kIJ d0 (cy 1) n0 s2.2))) H → va_D A ((ws.set k0 (kIJ d0 (cy 1) n0 s2.2))) → va_S A s.heap H locs → lv_has ls 4 [(0, .ref d0), (1, .long a1), (3, .int s2.1)] → (∀ (H : Heap) (locs : List Loc) (ls : Array Slot), va_P D vwCl ((ws.set k0 (kIJ d0 (cy 1) n0 e2))) H → va_D A ((ws.set k0 (kIJ d0 (cy 1) n0 e2))) → va_S A s.heap H locs → lv_has ls 4 [] → W p l e rmX1_write s m ([.ref d0, .long a1] : List Value).toArray below meth c H locs 0 0 (MQ below (kQv D A ((ws.set k0 (kIJ d0 (cy 1) n0 res)))) ([.ref d0, .long a1] : List Value).toArray s 0 0 A) (F0 m 27 ls [])) → W p l e rmX1_write s m ([.ref d0, .long a1] : List Value).toArray below meth c H locs 0 0 (MQ below (kQv D A ((ws.set k0 (kIJ d0 (cy 1) n0 res)))) ([.ref d0, .long a1] : List Value).toArray s 0 0 A) (F0 m 2 ls []) := by
    intro n2v
    induction n2v with
    | zero => intro s2 e2 h; exact (lpO_z h).elim
    | succ n2v ih2 =>
      intro s2 e2 h2z H locs ls hP hD hS hl K2_0
      obtain ⟨x2, hf, h2z⟩ := lpO_s h2z
      unfold mX1_write_s2 at hf
      refine lv_iload_n hx hb dX1_write_2 rfl (lv_at hl 2 rfl) ?_
      refine lv_aload_n hx hb dX1_write_3 rfl (lv_at hl 0 rfl) ?_
      refine va_alen (v := (Int32.ofNat n0)) hx hb hE.1 hP k0 1 (k_gset ha0) rfl rfl dX1_write_4 ?_
      refine lv_icmp_ge (tgt := 27) hx hb dX1_write_5 (by decide) (fun c5 => ?_) (fun c5 => ?_)
      · have hf := o_ip c5 hf
        obtain rfl := o_ret hf
        obtain rfl := lpK_l h2z
        exact K2_0 _ _ _ hP hD hS (lv_sub hl [] rfl)
      · have hf := o_in c5 hf
        refine lv_aload_n hx hb dX1_write_8 rfl (lv_at hl 0 rfl) ?_
        refine lv_iload_n hx hb dX1_write_9 rfl (lv_at hl 2 rfl) ?_
        refine lv_lload_n hx hb dX1_write_10 rfl (lv_at hl 1 rfl) ?_
        refine lv_bipush (v := 30) hx hb dX1_write_11 (by decide) ?_
        refine lv_iload_n hx hb dX1_write_13 rfl (lv_at hl 2 rfl) ?_
        refine lv_imul hx hb dX1_write_14 ?_
        refine lv_lshr (v := (a1 >>> ((30 * s2.1).toInt64 &&& 63))) hx hb dX1_write_15 rfl ?_
        refine lv_ldc2 (v := 1073741823) hx hb hown (hts _ wB548) dX1_write_16 ?_
        refine lv_land hx hb dX1_write_19 ?_
        obtain ⟨hg20, hf⟩ := gd_s hf
        refine va_last (f := s2.2) hx hb hE.1 hP hD hS k0 1 (k_gset ha0) rfl hg20 dX1_write_20 (fun H locs hP hD hS => ?_)
        have hP : va_P D vwCl ((ws.set k0 (kIJ d0 (cy 1) n0 (vp_updL s2.2 (s2.1.toNatClampNeg) ((a1 >>> ((30 * s2.1).toInt64 &&& 63)) &&& 1073741823))))) H := by rw [List.set_set] at hP; exact hP
        have hD : va_D A ((ws.set k0 (kIJ d0 (cy 1) n0 (vp_updL s2.2 (s2.1.toNatClampNeg) ((a1 >>> ((30 * s2.1).toInt64 &&& 63)) &&& 1073741823))))) := by rw [List.set_set] at hD; exact hD
        refine lv_iinc (v := (s2.1 + 1)) (lv' := [(3, .int (s2.1 + 1)), (0, .ref d0), (1, .long a1)]) hx hb dX1_write_21 hl (k := 2) rfl (by rfl) (by decide) rfl (fun ls hl => ?_)
        refine lv_goto (tgt := 2) hx hb dX1_write_24 (by decide) ?_
        obtain rfl := o_ret hf
        exact ih2 _ _ (lpK_r h2z) _ _ _ hP hD hS (lv_sub hl [1, 2, 0] rfl) K2_0
  obtain ⟨e2, h2q, hf⟩ := o_bs hf
  obtain ⟨n2v, h2q⟩ := lpF_ex h2q
  refine L2 n2v _ e2 h2q _ _ _ hP hD hS (lv_sub hl [1, 2, 0] rfl) ?_
  intro H locs ls hP hD hS hl
  obtain rfl := o_ret hf
  exact k_vret hx hb hr hP hD hS (Nat.zero_le _) (Nat.zero_le _) hlocks dX1_write_27
noncomputable def mX5_bad (u : KS) : Option (Int32 × KS) :=
  some ((-2), (sR u 0 (upd (gR u 0) ((0 : Int32).toNatClampNeg) (((gR u 0) ((0 : Int32).toNatClampNeg)) + 1))))
abbrev rmX5_bad : Room := { frames := 0, cells := 0, slots := 0, locals := 0 }
set_option maxRecDepth 100000 in
set_option maxHeartbeats 4000000 in
theorem cX5_bad (l : Launch) (D : va_G) (cy : Nat → ClassId) (sa : Nat → Nat) (q : Nat → Nat) (rest : va_W) (sz : Nat) (u : KS) (res : Int32 × KS) (hf : mX5_bad u = some res) : kMi l yX5_bad (wsK yX5_bad cX5_bad 1 (some .int)) rmX5_bad D cy sa (WX q cy u ++ rest) sz [.ref (q 0)] res.1 (WX q cy res.2 ++ rest) 0 0 := by
  refine kM_of (Qc := fun A => kQi D A res.1 (WX q cy res.2 ++ rest)) (cc := cX5_bad) (maxL := 1) (ret := (some .int)) (by decide) (Nat.le_of_ble_eq_true rfl) ?_
  intro p e s m below meth c A hx hb hml hr hts hown hlocks hin hA hP hD hS hE hsz ls hl
  have hown : s.vm.findClass RX5 = some m.cls := hown
  obtain ⟨H, hH0⟩ : ∃ H, H = s.heap := ⟨_, rfl⟩
  obtain ⟨locs, hlocs0⟩ : ∃ locs : List Loc, locs = [] := ⟨_, rfl⟩
  have hP : va_P D vwCl (WX q cy u ++ rest) H := by rw [hH0]; exact hP
  have hS : va_S A s.heap H locs := by rw [hH0, hlocs0]; exact hS
  have hl : lv_has ls 1 [(0, .ref (q 0))] := hl
  suffices hgoal : W p l e rmX5_bad s m ([.ref (q 0)] : List Value).toArray below meth c H locs 0 0 (MQ below (kQi D A res.1 (WX q cy res.2 ++ rest)) ([.ref (q 0)] : List Value).toArray s 0 0 A) (F0 m 0 ls []) by rw [hH0, hlocs0] at hgoal; exact hgoal
  clear hH0 hlocs0
  unfold mX5_bad at hf
  refine lv_aload_n hx hb dX5_bad_0 rfl (lv_at hl 0 rfl) ?_
  refine va_get (ci := 5) (v := .ref (q 2)) (C := RX5) (T := TX5) (N := 9) hx hb hts inlX5 hown hE.1 hP 0 rfl rfl 6 (by decide) (hts _ wB35) (fun _ h9 => h9) rfl dX5_bad_1 ?_
  refine lv_iconst (v := 0) hx hb dX5_bad_4 (by decide) ?_
  refine lv_dup2_11 hx hb dX5_bad_5 rfl rfl ?_
  refine va_iald (f := (gR u 0)) hx hb hE.1 hP 2 0 rfl rfl (k_in (by decide)) dX5_bad_6 ?_
  refine lv_iconst (v := 1) hx hb dX5_bad_7 (by decide) ?_
  refine lv_iadd hx hb dX5_bad_8 ?_
  refine va_iast (f := (gR u 0)) hx hb hE.1 hP hD hS 2 0 rfl rfl (k_in (by decide)) dX5_bad_9 (fun H locs hP hD hS => ?_)
  have hP : va_P D vwCl (WX q cy (sR u 0 (upd (gR u 0) ((0 : Int32).toNatClampNeg) (((gR u 0) ((0 : Int32).toNatClampNeg)) + 1))) ++ rest) H := hP
  have hD : va_D A (WX q cy (sR u 0 (upd (gR u 0) ((0 : Int32).toNatClampNeg) (((gR u 0) ((0 : Int32).toNatClampNeg)) + 1))) ++ rest) := hD
  refine lv_bipush (v := (-2)) hx hb dX5_bad_10 (by decide) ?_
  obtain rfl := o_ret hf
  exact k_iret hx hb hr hP hD hS (Nat.zero_le _) (Nat.zero_le _) hlocks dX5_bad_12
noncomputable def mX0_sortOf (a0 : Int32) : Option (Int32) :=
  if a0 = 32 then
  (some 0)
  else
  (if a0 < 97 then
  (if a0 < 48 then
  (some 3)
  else
  (if 57 < a0 then
  (some 3)
  else
  (some 2)))
  else
  (if 122 < a0 then
  (if a0 < 48 then
  (some 3)
  else
  (if 57 < a0 then
  (some 3)
  else
  (some 2)))
  else
  (some 1)))
abbrev rmX0_sortOf : Room := { frames := 0, cells := 0, slots := 0, locals := 0 }
set_option maxRecDepth 100000 in
set_option maxHeartbeats 4000000 in
theorem cX0_sortOf (l : Launch) (D : va_G) (cy : Nat → ClassId) (sa : Nat → Nat) (ws : va_W) (sz : Nat) (a0 : Int32) (res : Int32) (hf : mX0_sortOf a0 = some res) : kMi l yX0_sortOf (wsK yX0_sortOf cX0_sortOf 1 (some .int)) rmX0_sortOf D cy sa (ws) sz [.int a0] res (ws) 0 0 := by
  refine kM_of (Qc := fun A => kQi D A res (ws)) (cc := cX0_sortOf) (maxL := 1) (ret := (some .int)) (by decide) (Nat.le_of_ble_eq_true rfl) ?_
  intro p e s m below meth c A hx hb hml hr hts hown hlocks hin hA hP hD hS hE hsz ls hl
  have hown : s.vm.findClass RX0 = some m.cls := hown
  obtain ⟨H, hH0⟩ : ∃ H, H = s.heap := ⟨_, rfl⟩
  obtain ⟨locs, hlocs0⟩ : ∃ locs : List Loc, locs = [] := ⟨_, rfl⟩
  have hP : va_P D vwCl (ws) H := by rw [hH0]; exact hP
  have hS : va_S A s.heap H locs := by rw [hH0, hlocs0]; exact hS
  have hl : lv_has ls 1 [(0, .int a0)] := hl
  suffices hgoal : W p l e rmX0_sortOf s m ([.int a0] : List Value).toArray below meth c H locs 0 0 (MQ below (kQi D A res (ws)) ([.int a0] : List Value).toArray s 0 0 A) (F0 m 0 ls []) by rw [hH0, hlocs0] at hgoal; exact hgoal
  clear hH0 hlocs0
  unfold mX0_sortOf at hf
  refine lv_iload_n hx hb dX0_sortOf_0 rfl (lv_at hl 0 rfl) ?_
  refine lv_bipush (v := 32) hx hb dX0_sortOf_1 (by decide) ?_
  refine lv_icmp_ne (tgt := 8) hx hb dX0_sortOf_3 (by decide) (fun c3 => ?_) (fun c3 => ?_)
  · have hf := o_in c3 hf
    refine lv_iload_n hx hb dX0_sortOf_8 rfl (lv_at hl 0 rfl) ?_
    refine lv_bipush (v := 97) hx hb dX0_sortOf_9 (by decide) ?_
    refine lv_icmp_lt (tgt := 22) hx hb dX0_sortOf_11 (by decide) (fun c11 => ?_) (fun c11 => ?_)
    · have hf := o_ip c11 hf
      refine lv_iload_n hx hb dX0_sortOf_22 rfl (lv_at hl 0 rfl) ?_
      refine lv_bipush (v := 48) hx hb dX0_sortOf_23 (by decide) ?_
      refine lv_icmp_lt (tgt := 38) hx hb dX0_sortOf_25 (by decide) (fun c25 => ?_) (fun c25 => ?_)
      · have hf := o_ip c25 hf
        refine lv_iconst (v := 3) hx hb dX0_sortOf_38 (by decide) ?_
        obtain rfl := o_ret hf
        exact k_iret hx hb hr hP hD hS (Nat.zero_le _) (Nat.zero_le _) hlocks dX0_sortOf_39
      · have hf := o_in c25 hf
        refine lv_iload_n hx hb dX0_sortOf_28 rfl (lv_at hl 0 rfl) ?_
        refine lv_bipush (v := 57) hx hb dX0_sortOf_29 (by decide) ?_
        refine lv_icmp_gt (tgt := 38) hx hb dX0_sortOf_31 (by decide) (fun c31 => ?_) (fun c31 => ?_)
        · have hf := o_ip c31 hf
          refine lv_iconst (v := 3) hx hb dX0_sortOf_38 (by decide) ?_
          obtain rfl := o_ret hf
          exact k_iret hx hb hr hP hD hS (Nat.zero_le _) (Nat.zero_le _) hlocks dX0_sortOf_39
        · have hf := o_in c31 hf
          refine lv_iconst (v := 2) hx hb dX0_sortOf_34 (by decide) ?_
          refine lv_goto (tgt := 39) hx hb dX0_sortOf_35 (by decide) ?_
          obtain rfl := o_ret hf
          exact k_iret hx hb hr hP hD hS (Nat.zero_le _) (Nat.zero_le _) hlocks dX0_sortOf_39
    · have hf := o_in c11 hf
      refine lv_iload_n hx hb dX0_sortOf_14 rfl (lv_at hl 0 rfl) ?_
      refine lv_bipush (v := 122) hx hb dX0_sortOf_15 (by decide) ?_
      refine lv_icmp_gt (tgt := 22) hx hb dX0_sortOf_17 (by decide) (fun c17 => ?_) (fun c17 => ?_)
      · have hf := o_ip c17 hf
        refine lv_iload_n hx hb dX0_sortOf_22 rfl (lv_at hl 0 rfl) ?_
        refine lv_bipush (v := 48) hx hb dX0_sortOf_23 (by decide) ?_
        refine lv_icmp_lt (tgt := 38) hx hb dX0_sortOf_25 (by decide) (fun c25 => ?_) (fun c25 => ?_)
        · have hf := o_ip c25 hf
          refine lv_iconst (v := 3) hx hb dX0_sortOf_38 (by decide) ?_
          obtain rfl := o_ret hf
          exact k_iret hx hb hr hP hD hS (Nat.zero_le _) (Nat.zero_le _) hlocks dX0_sortOf_39
        · have hf := o_in c25 hf
          refine lv_iload_n hx hb dX0_sortOf_28 rfl (lv_at hl 0 rfl) ?_
          refine lv_bipush (v := 57) hx hb dX0_sortOf_29 (by decide) ?_
          refine lv_icmp_gt (tgt := 38) hx hb dX0_sortOf_31 (by decide) (fun c31 => ?_) (fun c31 => ?_)
          · have hf := o_ip c31 hf
            refine lv_iconst (v := 3) hx hb dX0_sortOf_38 (by decide) ?_
            obtain rfl := o_ret hf
            exact k_iret hx hb hr hP hD hS (Nat.zero_le _) (Nat.zero_le _) hlocks dX0_sortOf_39
          · have hf := o_in c31 hf
            refine lv_iconst (v := 2) hx hb dX0_sortOf_34 (by decide) ?_
            refine lv_goto (tgt := 39) hx hb dX0_sortOf_35 (by decide) ?_
            obtain rfl := o_ret hf
            exact k_iret hx hb hr hP hD hS (Nat.zero_le _) (Nat.zero_le _) hlocks dX0_sortOf_39
      · have hf := o_in c17 hf
        refine lv_iconst (v := 1) hx hb dX0_sortOf_20 (by decide) ?_
        obtain rfl := o_ret hf
        exact k_iret hx hb hr hP hD hS (Nat.zero_le _) (Nat.zero_le _) hlocks dX0_sortOf_21
  · have hf := o_ip c3 hf
    refine lv_iconst (v := 0) hx hb dX0_sortOf_6 (by decide) ?_
    obtain rfl := o_ret hf
    exact k_iret hx hb hr hP hD hS (Nat.zero_le _) (Nat.zero_le _) hlocks dX0_sortOf_7
noncomputable def mX0_tokenEnd_s14 (n0 : Nat) (f0 : Nat → Int32) (c2 : Int32) (c3 : Int32) (s14 : Int32) : Option ((Int32) ⊕ (Int32)) :=
  if c3 = 3 then
  (some (.inl s14))
  else
  (if c2 ≤ s14 then
  (some (.inl s14))
  else
  ((mX5_at n0 f0 s14).bind fun r28 =>
  (mX0_sortOf r28).bind fun r31 =>
  if r31 = c3 then
  (some (.inr (s14 + 1)))
  else
  (some (.inl s14))))
noncomputable def mX0_tokenEnd (n0 : Nat) (f0 : Nat → Int32) (a1 : Int32) (a2 : Int32) : Option (Int32) :=
  (mX5_at n0 f0 a1).bind fun r2 =>
  (mX0_sortOf r2).bind fun r5 =>
  (lpF (mX0_tokenEnd_s14 n0 f0 a2 r5) (a1 + 1)).bind fun e14 =>
  some e14
abbrev rmX0_tokenEnd : Room := { frames := 1, cells := 0, slots := 0, locals := 21 }
set_option maxRecDepth 100000 in
set_option maxHeartbeats 4000000 in
theorem cX0_tokenEnd (l : Launch) (D : va_G) (cy : Nat → ClassId) (sa : Nat → Nat) (ws : va_W) (sz : Nat) (k0 d0 n0 : Nat) (f0 : Nat → Int32) (a1 : Int32) (a2 : Int32) (res : Int32) (ha0 : ws[k0]? = some (kII d0 (cy 0) n0 f0)) (hf : mX0_tokenEnd n0 f0 a1 a2 = some res) : kMi l yX0_tokenEnd (wsK yX0_tokenEnd cX0_tokenEnd 5 (some .int)) rmX0_tokenEnd D cy sa (ws) sz [.ref d0, .int a1, .int a2] res (ws) 0 0 := by
  refine kM_of (Qc := fun A => kQi D A res (ws)) (cc := cX0_tokenEnd) (maxL := 5) (ret := (some .int)) (by decide) (Nat.le_of_ble_eq_true rfl) ?_
  intro p e s m below meth c A hx hb hml hr hts hown hlocks hin hA hP hD hS hE hsz ls hl
  have hown : s.vm.findClass RX0 = some m.cls := hown
  obtain ⟨H, hH0⟩ : ∃ H, H = s.heap := ⟨_, rfl⟩
  obtain ⟨locs, hlocs0⟩ : ∃ locs : List Loc, locs = [] := ⟨_, rfl⟩
  have hP : va_P D vwCl (ws) H := by rw [hH0]; exact hP
  have hS : va_S A s.heap H locs := by rw [hH0, hlocs0]; exact hS
  have hl : lv_has ls 5 [(0, .ref d0), (1, .int a1), (2, .int a2)] := hl
  suffices hgoal : W p l e rmX0_tokenEnd s m ([.ref d0, .int a1, .int a2] : List Value).toArray below meth c H locs 0 0 (MQ below (kQi D A res (ws)) ([.ref d0, .int a1, .int a2] : List Value).toArray s 0 0 A) (F0 m 0 ls []) by rw [hH0, hlocs0] at hgoal; exact hgoal
  clear hH0 hlocs0
  unfold mX0_tokenEnd at hf
  refine lv_aload_n hx hb dX0_tokenEnd_0 rfl (lv_at hl 0 rfl) ?_
  refine lv_iload_n hx hb dX0_tokenEnd_1 rfl (lv_at hl 1 rfl) ?_
  obtain ⟨r2, h2r, hf⟩ := o_bs hf
  refine k_goi (va_runSN (As := [.ref d0, .int a1]) (rest := []) ⟨hx, hb, hml, hown, hts⟩ (cX5_at l D cy sa (ws) H.size k0 d0 n0 f0 a1 r2 ha0 h2r) ⟨va_cnB 2 hts (gB_K wB177) rfl rfl rfl (hE.2.1.1 _ (List.mem_of_getElem? (i := 4) rfl)) (hts _ wB2) (by decide +kernel) ⟨Nat.le_of_ble_eq_true rfl, Nat.le_of_ble_eq_true rfl⟩, hts _ wB176, trivial⟩ ⟨kP.blind, k_pre hP hD hS hE hA⟩ rfl rfl hl.1 rfl (lv_room (Nat.le_of_ble_eq_true rfl)) dX0_tokenEnd_2 ⟨Nat.zero_le _, Nat.zero_le _⟩) hD hS hA (fun H locs hP hD hS => ?_)
  obtain ⟨r5, h5r, hf⟩ := o_bs hf
  refine k_goi (va_runS (As := [.int r2]) (rest := []) ⟨hx, hb, hml, hown, hts⟩ (cX0_sortOf l D cy sa (ws) H.size r2  r5  h5r) (va_cwS 1 hts (gB_S wB178 wB179 wB20 wB180) rfl rfl rfl (by decide +kernel) ⟨Nat.le_of_ble_eq_true rfl, Nat.le_of_ble_eq_true rfl⟩) ⟨kP.blind, k_pre hP hD hS hE hA⟩ rfl rfl hl.1 rfl (lv_room (Nat.le_of_ble_eq_true rfl)) dX0_tokenEnd_5 ⟨Nat.zero_le _, Nat.zero_le _⟩) hD hS hA (fun H locs hP hD hS => ?_)
  refine lv_istore_n (lv' := [(3, .int r5), (0, .ref d0), (1, .int a1), (2, .int a2)]) hx hb dX0_tokenEnd_8 rfl hl (by decide) rfl (fun ls hl => ?_)
  refine lv_iload_n hx hb dX0_tokenEnd_9 rfl (lv_at hl 2 rfl) ?_
  refine lv_iconst (v := 1) hx hb dX0_tokenEnd_10 (by decide) ?_
  refine lv_iadd hx hb dX0_tokenEnd_11 ?_
  refine lv_istore (lv' := [(4, .int (a1 + 1)), (3, .int r5), (0, .ref d0), (1, .int a1), (2, .int a2)]) hx hb dX0_tokenEnd_12 hl (by decide) rfl (fun ls hl => ?_)
  have L14 : ∀ (n14v : Nat) (s14 : Int32) (e14 : Int32), lpO (mX0_tokenEnd_s14 n0 f0 a2 r5) n14v s14 = some e14 → ∀ (H : Heap) (locs : List Loc) (ls : Array Slot), va_P D vwCl (ws) H → va_D A (ws) → va_S A s.heap H locs → lv_has ls 5 [(0, .ref d0), (2, .int a2), (3, .int r5), (4, .int s14)] → (∀ (H : Heap) (locs : List Loc) (ls : Array Slot), va_P D vwCl (ws) H → va_D A (ws) → va_S A s.heap H locs → lv_has ls 5 [(4, .int e14)] → W p l e rmX0_tokenEnd s m ([.ref d0, .int a1, .int a2] : List Value).toArray below meth c H locs 0 0 (MQ below (kQi D A res (ws)) ([.ref d0, .int a1, .int a2] : List Value).toArray s 0 0 A) (F0 m 44 ls [])) → W p l e rmX0_tokenEnd s m ([.ref d0, .int a1, .int a2] : List Value).toArray below meth c H locs 0 0 (MQ below (kQi D A res (ws)) ([.ref d0, .int a1, .int a2] : List Value).toArray s 0 0 A) (F0 m 14 ls []) := by
    intro n14v
    induction n14v with
    | zero => intro s14 e14 h; exact (lpO_z h).elim
    | succ n14v ih14 =>
      intro s14 e14 h14z H locs ls hP hD hS hl K14_0
      obtain ⟨x14, hf, h14z⟩ := lpO_s h14z
      unfold mX0_tokenEnd_s14 at hf
      refine lv_iload_n hx hb dX0_tokenEnd_14 rfl (lv_at hl 2 rfl) ?_
      refine lv_iconst (v := 3) hx hb dX0_tokenEnd_15 (by decide) ?_
      refine lv_icmp_eq (tgt := 44) hx hb dX0_tokenEnd_16 (by decide) (fun c16 => ?_) (fun c16 => ?_)
      · have hf := o_ip c16 hf
        obtain rfl := o_ret hf
        obtain rfl := lpK_l h14z
        exact K14_0 _ _ _ hP hD hS (lv_sub hl [3] rfl)
      · have hf := o_in c16 hf
        refine lv_iload hx hb dX0_tokenEnd_19 (lv_at hl 3 rfl) ?_
        refine lv_iload_n hx hb dX0_tokenEnd_21 rfl (lv_at hl 1 rfl) ?_
        refine lv_icmp_ge (tgt := 44) hx hb dX0_tokenEnd_22 (by decide) (fun c22 => ?_) (fun c22 => ?_)
        · have hf := o_ip c22 hf
          obtain rfl := o_ret hf
          obtain rfl := lpK_l h14z
          exact K14_0 _ _ _ hP hD hS (lv_sub hl [3] rfl)
        · have hf := o_in c22 hf
          refine lv_aload_n hx hb dX0_tokenEnd_25 rfl (lv_at hl 0 rfl) ?_
          refine lv_iload hx hb dX0_tokenEnd_26 (lv_at hl 3 rfl) ?_
          obtain ⟨r28, h28r, hf⟩ := o_bs hf
          refine k_goi (va_runSN (As := [.ref d0, .int s14]) (rest := []) ⟨hx, hb, hml, hown, hts⟩ (cX5_at l D cy sa (ws) H.size k0 d0 n0 f0 s14 r28 ha0 h28r) ⟨va_cnB 2 hts (gB_K wB177) rfl rfl rfl (hE.2.1.1 _ (List.mem_of_getElem? (i := 4) rfl)) (hts _ wB2) (by decide +kernel) ⟨Nat.le_of_ble_eq_true rfl, Nat.le_of_ble_eq_true rfl⟩, hts _ wB176, trivial⟩ ⟨kP.blind, k_pre hP hD hS hE hA⟩ rfl rfl hl.1 rfl (lv_room (Nat.le_of_ble_eq_true rfl)) dX0_tokenEnd_28 ⟨Nat.zero_le _, Nat.zero_le _⟩) hD hS hA (fun H locs hP hD hS => ?_)
          obtain ⟨r31, h31r, hf⟩ := o_bs hf
          refine k_goi (va_runS (As := [.int r28]) (rest := []) ⟨hx, hb, hml, hown, hts⟩ (cX0_sortOf l D cy sa (ws) H.size r28  r31  h31r) (va_cwS 1 hts (gB_S wB178 wB179 wB20 wB180) rfl rfl rfl (by decide +kernel) ⟨Nat.le_of_ble_eq_true rfl, Nat.le_of_ble_eq_true rfl⟩) ⟨kP.blind, k_pre hP hD hS hE hA⟩ rfl rfl hl.1 rfl (lv_room (Nat.le_of_ble_eq_true rfl)) dX0_tokenEnd_31 ⟨Nat.zero_le _, Nat.zero_le _⟩) hD hS hA (fun H locs hP hD hS => ?_)
          refine lv_iload_n hx hb dX0_tokenEnd_34 rfl (lv_at hl 2 rfl) ?_
          refine lv_icmp_ne (tgt := 44) hx hb dX0_tokenEnd_35 (by decide) (fun c35 => ?_) (fun c35 => ?_)
          · have hf := o_in c35 hf
            obtain rfl := o_ret hf
            obtain rfl := lpK_l h14z
            exact K14_0 _ _ _ hP hD hS (lv_sub hl [3] rfl)
          · have hf := o_ip c35 hf
            refine lv_iinc (v := (s14 + 1)) (lv' := [(4, .int (s14 + 1)), (0, .ref d0), (2, .int a2), (3, .int r5)]) hx hb dX0_tokenEnd_38 hl (k := 3) rfl (by rfl) (by decide) rfl (fun ls hl => ?_)
            refine lv_goto (tgt := 14) hx hb dX0_tokenEnd_41 (by decide) ?_
            obtain rfl := o_ret hf
            exact ih14 _ _ (lpK_r h14z) _ _ _ hP hD hS (lv_sub hl [1, 2, 3, 0] rfl) K14_0
  obtain ⟨e14, h14q, hf⟩ := o_bs hf
  obtain ⟨n14v, h14q⟩ := lpF_ex h14q
  refine L14 n14v _ e14 h14q _ _ _ hP hD hS (lv_sub hl [2, 4, 1, 0] rfl) ?_
  intro H locs ls hP hD hS hl
  refine lv_iload hx hb dX0_tokenEnd_44 (lv_at hl 0 rfl) ?_
  obtain rfl := o_ret hf
  exact k_iret hx hb hr hP hD hS (Nat.zero_le _) (Nat.zero_le _) hlocks dX0_tokenEnd_46
noncomputable def mJ0_coder_7d493 (w0 : Nat) : Option (Int32) :=
  some 0
abbrev rmJ0_coder_7d493 : Room := { frames := 0, cells := 0, slots := 0, locals := 0 }
set_option maxRecDepth 100000 in
set_option maxHeartbeats 4000000 in
theorem cJ0_coder_7d493 (l : Launch) (D : va_G) (cy : Nat → ClassId) (sa : Nat → Nat) (ws : va_W) (sz : Nat) (w0 : Nat) (res : Int32) (hw : w0 < 4) (hf : mJ0_coder_7d493 w0 = some res) : kMi l yJ0_coder_7d493 (wsK yJ0_coder_7d493 cJ0_coder_7d493 1 (some .byte)) rmJ0_coder_7d493 D cy sa (ws) sz [.ref (sa w0)] res (ws) 0 0 := by
  refine kM_of (Qc := fun A => kQi D A res (ws)) (cc := cJ0_coder_7d493) (maxL := 1) (ret := (some .byte)) (by decide) (Nat.le_of_ble_eq_true rfl) ?_
  intro p e s m below meth c A hx hb hml hr hts hown hlocks hin hA hP hD hS hE hsz ls hl
  have hown : s.vm.findClass RJ0 = some m.cls := hown
  obtain ⟨H, hH0⟩ : ∃ H, H = s.heap := ⟨_, rfl⟩
  obtain ⟨locs, hlocs0⟩ : ∃ locs : List Loc, locs = [] := ⟨_, rfl⟩
  have hP : va_P D vwCl (ws) H := by rw [hH0]; exact hP
  have hS : va_S A s.heap H locs := by rw [hH0, hlocs0]; exact hS
  have hl : lv_has ls 1 [(0, .ref (sa w0))] := hl
  suffices hgoal : W p l e rmJ0_coder_7d493 s m ([.ref (sa w0)] : List Value).toArray below meth c H locs 0 0 (MQ below (kQi D A res (ws)) ([.ref (sa w0)] : List Value).toArray s 0 0 A) (F0 m 0 ls []) by rw [hH0, hlocs0] at hgoal; exact hgoal
  clear hH0 hlocs0
  unfold mJ0_coder_7d493 at hf
  refine va_gets hx hb hE.2.2.2.1 hS hown (hts _ wB206) (fun _ h9 => h9) dJ0_coder_7d493_0 ?_
  refine lv_if_eq (tgt := 13) hx hb dJ0_coder_7d493_3 (by decide) (fun c3 => absurd c3 (by decide)) (fun c3 => ?_)
  refine lv_aload_n hx hb dJ0_coder_7d493_6 rfl (lv_at hl 0 rfl) ?_
  refine vk_getf hx hb (hE.2.2.1.1 _ hw).2.1 hS hown (hts _ wB207) (fun _ h9 => h9) dJ0_coder_7d493_7 ?_
  refine lv_goto (tgt := 14) hx hb dJ0_coder_7d493_10 (by decide) ?_
  obtain rfl := o_ret hf
  exact k_zret hx hb hr hP hD hS rfl (Nat.zero_le _) (Nat.zero_le _) hlocks dJ0_coder_7d493_14
noncomputable def mJ0_length_8abf5 (w0 : Nat) : Option (Int32) :=
  (mJ0_coder_7d493 w0).bind fun r6 =>
  some ((kSl w0) >>> (r6 &&& 31))
abbrev rmJ0_length_8abf5 : Room := { frames := 1, cells := 0, slots := 0, locals := 20 }
set_option maxRecDepth 100000 in
set_option maxHeartbeats 4000000 in
theorem cJ0_length_8abf5 (l : Launch) (D : va_G) (cy : Nat → ClassId) (sa : Nat → Nat) (ws : va_W) (sz : Nat) (w0 : Nat) (res : Int32) (hw : w0 < 4) (hf : mJ0_length_8abf5 w0 = some res) : kMi l yJ0_length_8abf5 (wsK yJ0_length_8abf5 cJ0_length_8abf5 1 (some .int)) rmJ0_length_8abf5 D cy sa (ws) sz [.ref (sa w0)] res (ws) 0 0 := by
  refine kM_of (Qc := fun A => kQi D A res (ws)) (cc := cJ0_length_8abf5) (maxL := 1) (ret := (some .int)) (by decide) (Nat.le_of_ble_eq_true rfl) ?_
  intro p e s m below meth c A hx hb hml hr hts hown hlocks hin hA hP hD hS hE hsz ls hl
  have hown : s.vm.findClass RJ0 = some m.cls := hown
  obtain ⟨H, hH0⟩ : ∃ H, H = s.heap := ⟨_, rfl⟩
  obtain ⟨locs, hlocs0⟩ : ∃ locs : List Loc, locs = [] := ⟨_, rfl⟩
  have hP : va_P D vwCl (ws) H := by rw [hH0]; exact hP
  have hS : va_S A s.heap H locs := by rw [hH0, hlocs0]; exact hS
  have hl : lv_has ls 1 [(0, .ref (sa w0))] := hl
  suffices hgoal : W p l e rmJ0_length_8abf5 s m ([.ref (sa w0)] : List Value).toArray below meth c H locs 0 0 (MQ below (kQi D A res (ws)) ([.ref (sa w0)] : List Value).toArray s 0 0 A) (F0 m 0 ls []) by rw [hH0, hlocs0] at hgoal; exact hgoal
  clear hH0 hlocs0
  unfold mJ0_length_8abf5 at hf
  refine lv_aload_n hx hb dJ0_length_8abf5_0 rfl (lv_at hl 0 rfl) ?_
  refine vk_getf hx hb (hE.2.2.1.1 _ hw).2.2.1 hS hown (hts _ wB201) (fun _ h9 => h9) dJ0_length_8abf5_1 ?_
  refine va_tlen (v := kSl w0) hx hb (hE.2.2.1.1 _ hw).2.2.2 hS rfl dJ0_length_8abf5_4 ?_
  refine lv_aload_n hx hb dJ0_length_8abf5_5 rfl (lv_at hl 0 rfl) ?_
  obtain ⟨r6, h6r, hf⟩ := o_bs hf
  refine k_goi (va_runV (As := []) (rest := [.int (kSl w0)]) ⟨hx, hb, hml, hown, hts⟩ (cJ0_coder_7d493 l D cy sa (ws) H.size w0  r6 hw h6r) (cwV 0 hts (gB_V wB202 wB203 wB204 wB199 wB205) rfl rfl rfl (by decide +kernel) ⟨Nat.le_of_ble_eq_true rfl, Nat.le_of_ble_eq_true rfl⟩) ⟨kP.blind, vk_recv hE.2.2.1 hw hS, k_pre hP hD hS hE hA⟩ rfl rfl hl.1 rfl (lv_room (Nat.le_of_ble_eq_true rfl)) dJ0_length_8abf5_6 ⟨Nat.zero_le _, Nat.zero_le _⟩) hD hS hA (fun H locs hP hD hS => ?_)
  refine lv_ishr hx hb dJ0_length_8abf5_9 ?_
  obtain rfl := o_ret hf
  exact k_iret hx hb hr hP hD hS (Nat.zero_le _) (Nat.zero_le _) hlocks dJ0_length_8abf5_10
noncomputable def mJ0_isLatin1_aae02 (w0 : Nat) : Option (Int32) :=
  some 1
abbrev rmJ0_isLatin1_aae02 : Room := { frames := 0, cells := 0, slots := 0, locals := 0 }
set_option maxRecDepth 100000 in
set_option maxHeartbeats 4000000 in
theorem cJ0_isLatin1_aae02 (l : Launch) (D : va_G) (cy : Nat → ClassId) (sa : Nat → Nat) (ws : va_W) (sz : Nat) (w0 : Nat) (res : Int32) (hw : w0 < 4) (hf : mJ0_isLatin1_aae02 w0 = some res) : kMi l yJ0_isLatin1_aae02 (wsK yJ0_isLatin1_aae02 cJ0_isLatin1_aae02 1 (some .boolean)) rmJ0_isLatin1_aae02 D cy sa (ws) sz [.ref (sa w0)] res (ws) 0 0 := by
  refine kM_of (Qc := fun A => kQi D A res (ws)) (cc := cJ0_isLatin1_aae02) (maxL := 1) (ret := (some .boolean)) (by decide) (Nat.le_of_ble_eq_true rfl) ?_
  intro p e s m below meth c A hx hb hml hr hts hown hlocks hin hA hP hD hS hE hsz ls hl
  have hown : s.vm.findClass RJ0 = some m.cls := hown
  obtain ⟨H, hH0⟩ : ∃ H, H = s.heap := ⟨_, rfl⟩
  obtain ⟨locs, hlocs0⟩ : ∃ locs : List Loc, locs = [] := ⟨_, rfl⟩
  have hP : va_P D vwCl (ws) H := by rw [hH0]; exact hP
  have hS : va_S A s.heap H locs := by rw [hH0, hlocs0]; exact hS
  have hl : lv_has ls 1 [(0, .ref (sa w0))] := hl
  suffices hgoal : W p l e rmJ0_isLatin1_aae02 s m ([.ref (sa w0)] : List Value).toArray below meth c H locs 0 0 (MQ below (kQi D A res (ws)) ([.ref (sa w0)] : List Value).toArray s 0 0 A) (F0 m 0 ls []) by rw [hH0, hlocs0] at hgoal; exact hgoal
  clear hH0 hlocs0
  unfold mJ0_isLatin1_aae02 at hf
  refine va_gets hx hb hE.2.2.2.1 hS hown (hts _ wB206) (fun _ h9 => h9) dJ0_isLatin1_aae02_0 ?_
  refine lv_if_eq (tgt := 17) hx hb dJ0_isLatin1_aae02_3 (by decide) (fun c3 => absurd c3 (by decide)) (fun c3 => ?_)
  refine lv_aload_n hx hb dJ0_isLatin1_aae02_6 rfl (lv_at hl 0 rfl) ?_
  refine vk_getf hx hb (hE.2.2.1.1 _ hw).2.1 hS hown (hts _ wB207) (fun _ h9 => h9) dJ0_isLatin1_aae02_7 ?_
  refine lv_if_ne (tgt := 17) hx hb dJ0_isLatin1_aae02_10 (by decide) (fun c10 => absurd c10 (by decide)) (fun c10 => ?_)
  refine lv_iconst (v := 1) hx hb dJ0_isLatin1_aae02_13 (by decide) ?_
  refine lv_goto (tgt := 18) hx hb dJ0_isLatin1_aae02_14 (by decide) ?_
  obtain rfl := o_ret hf
  exact k_zret hx hb hr hP hD hS rfl (Nat.zero_le _) (Nat.zero_le _) hlocks dJ0_isLatin1_aae02_18

abbrev rmJ3_checkIndex_8e157_z : Room := { frames := 0, cells := 0, slots := 0, locals := 0 }
set_option maxRecDepth 100000 in
set_option maxHeartbeats 4000000 in
theorem cJ3_checkIndex_8e157_z (l : Launch) (D : va_G) (cy : Nat → ClassId) (sa : Nat → Nat) (ws : va_W) (sz : Nat) (a0 : Int32) (a1 : Int32) (res : Int32) (hf : mJ3_checkIndex_8e157 a0 a1 = some res) : kMi l yJ3_checkIndex_8e157 (wsK yJ3_checkIndex_8e157 cJ3_checkIndex_8e157 3 (some .int)) rmJ3_checkIndex_8e157_z D cy sa (ws) sz [.int a0, .int a1, .null] res (ws) 0 0 := by
  refine kM_of (Qc := fun A => kQi D A res (ws)) (cc := cJ3_checkIndex_8e157) (maxL := 3) (ret := (some .int)) (by decide) (Nat.le_of_ble_eq_true rfl) ?_
  intro p e s m below meth c A hx hb hml hr hts hown hlocks hin hA hP hD hS hE hsz ls hl
  have hown : s.vm.findClass RJ3 = some m.cls := hown
  obtain ⟨H, hH0⟩ : ∃ H, H = s.heap := ⟨_, rfl⟩
  obtain ⟨locs, hlocs0⟩ : ∃ locs : List Loc, locs = [] := ⟨_, rfl⟩
  have hP : va_P D vwCl (ws) H := by rw [hH0]; exact hP
  have hS : va_S A s.heap H locs := by rw [hH0, hlocs0]; exact hS
  have hl : lv_has ls 3 [(0, .int a0), (1, .int a1), (2, .null)] := hl
  suffices hgoal : W p l e rmJ3_checkIndex_8e157_z s m ([.int a0, .int a1, .null] : List Value).toArray below meth c H locs 0 0 (MQ below (kQi D A res (ws)) ([.int a0, .int a1, .null] : List Value).toArray s 0 0 A) (F0 m 0 ls []) by rw [hH0, hlocs0] at hgoal; exact hgoal
  clear hH0 hlocs0
  unfold mJ3_checkIndex_8e157 at hf
  refine lv_iload_n hx hb dJ3_checkIndex_8e157_0 rfl (lv_at hl 0 rfl) ?_
  refine lv_if_lt (tgt := 9) hx hb dJ3_checkIndex_8e157_1 (by decide) (fun c1 => ?_) (fun c1 => ?_)
  · have hf := o_ip c1 hf
    cases hf
  · have hf := o_in c1 hf
    refine lv_iload_n hx hb dJ3_checkIndex_8e157_4 rfl (lv_at hl 0 rfl) ?_
    refine lv_iload_n hx hb dJ3_checkIndex_8e157_5 rfl (lv_at hl 1 rfl) ?_
    refine lv_icmp_lt (tgt := 16) hx hb dJ3_checkIndex_8e157_6 (by decide) (fun c6 => ?_) (fun c6 => ?_)
    · have hf := o_ip c6 hf
      refine lv_iload_n hx hb dJ3_checkIndex_8e157_16 rfl (lv_at hl 0 rfl) ?_
      obtain rfl := o_ret hf
      exact k_iret hx hb hr hP hD hS (Nat.zero_le _) (Nat.zero_le _) hlocks dJ3_checkIndex_8e157_17
    · have hf := o_in c6 hf
      cases hf
noncomputable def mJ3_checkIndex_8e157 (a0 : Int32) (a1 : Int32) : Option (Int32) :=
  if a0 < 0 then
  (none)
  else
  (if a0 < a1 then
  (some a0)
  else
  (none))
abbrev rmJ3_checkIndex_8e157 : Room := { frames := 0, cells := 0, slots := 0, locals := 0 }
set_option maxRecDepth 100000 in
set_option maxHeartbeats 4000000 in
theorem cJ3_checkIndex_8e157 (l : Launch) (D : va_G) (cy : Nat → ClassId) (sa : Nat → Nat) (ws : va_W) (sz : Nat) (a0 : Int32) (a1 : Int32) (t2 : Nat) (res : Int32) (hf : mJ3_checkIndex_8e157 a0 a1 = some res) : kMi l yJ3_checkIndex_8e157 (wsK yJ3_checkIndex_8e157 cJ3_checkIndex_8e157 3 (some .int)) rmJ3_checkIndex_8e157 D cy sa (ws) sz [.int a0, .int a1, .ref t2] res (ws) 0 0 := by
  refine kM_of (Qc := fun A => kQi D A res (ws)) (cc := cJ3_checkIndex_8e157) (maxL := 3) (ret := (some .int)) (by decide) (Nat.le_of_ble_eq_true rfl) ?_
  intro p e s m below meth c A hx hb hml hr hts hown hlocks hin hA hP hD hS hE hsz ls hl
  have hown : s.vm.findClass RJ3 = some m.cls := hown
  obtain ⟨H, hH0⟩ : ∃ H, H = s.heap := ⟨_, rfl⟩
  obtain ⟨locs, hlocs0⟩ : ∃ locs : List Loc, locs = [] := ⟨_, rfl⟩
  have hP : va_P D vwCl (ws) H := by rw [hH0]; exact hP
  have hS : va_S A s.heap H locs := by rw [hH0, hlocs0]; exact hS
  have hl : lv_has ls 3 [(0, .int a0), (1, .int a1), (2, .ref t2)] := hl
  suffices hgoal : W p l e rmJ3_checkIndex_8e157 s m ([.int a0, .int a1, .ref t2] : List Value).toArray below meth c H locs 0 0 (MQ below (kQi D A res (ws)) ([.int a0, .int a1, .ref t2] : List Value).toArray s 0 0 A) (F0 m 0 ls []) by rw [hH0, hlocs0] at hgoal; exact hgoal
  clear hH0 hlocs0
  unfold mJ3_checkIndex_8e157 at hf
  refine lv_iload_n hx hb dJ3_checkIndex_8e157_0 rfl (lv_at hl 0 rfl) ?_
  refine lv_if_lt (tgt := 9) hx hb dJ3_checkIndex_8e157_1 (by decide) (fun c1 => ?_) (fun c1 => ?_)
  · have hf := o_ip c1 hf
    cases hf
  · have hf := o_in c1 hf
    refine lv_iload_n hx hb dJ3_checkIndex_8e157_4 rfl (lv_at hl 0 rfl) ?_
    refine lv_iload_n hx hb dJ3_checkIndex_8e157_5 rfl (lv_at hl 1 rfl) ?_
    refine lv_icmp_lt (tgt := 16) hx hb dJ3_checkIndex_8e157_6 (by decide) (fun c6 => ?_) (fun c6 => ?_)
    · have hf := o_ip c6 hf
      refine lv_iload_n hx hb dJ3_checkIndex_8e157_16 rfl (lv_at hl 0 rfl) ?_
      obtain rfl := o_ret hf
      exact k_iret hx hb hr hP hD hS (Nat.zero_le _) (Nat.zero_le _) hlocks dJ3_checkIndex_8e157_17
    · have hf := o_in c6 hf
      cases hf
noncomputable def mJ0_checkIndex_df160 (a0 : Int32) (a1 : Int32) : Option (Unit) :=
  (mJ3_checkIndex_8e157 a0 a1).bind fun r5 =>
  some ()
abbrev rmJ0_checkIndex_df160 : Room := { frames := 1, cells := 0, slots := 0, locals := 22 }
set_option maxRecDepth 100000 in
set_option maxHeartbeats 4000000 in
theorem cJ0_checkIndex_df160 (l : Launch) (D : va_G) (cy : Nat → ClassId) (sa : Nat → Nat) (ws : va_W) (sz : Nat) (a0 : Int32) (a1 : Int32) (res : Unit) (hf : mJ0_checkIndex_df160 a0 a1 = some res) : kMv l yJ0_checkIndex_df160 (wsK yJ0_checkIndex_df160 cJ0_checkIndex_df160 2 none) rmJ0_checkIndex_df160 D cy sa (ws) sz [.int a0, .int a1] (ws) 0 0 := by
  refine kM_of (Qc := fun A => kQv D A (ws)) (cc := cJ0_checkIndex_df160) (maxL := 2) (ret := none) (by decide) (Nat.le_of_ble_eq_true rfl) ?_
  intro p e s m below meth c A hx hb hml hr hts hown hlocks hin hA hP hD hS hE hsz ls hl
  have hown : s.vm.findClass RJ0 = some m.cls := hown
  obtain ⟨H, hH0⟩ : ∃ H, H = s.heap := ⟨_, rfl⟩
  obtain ⟨locs, hlocs0⟩ : ∃ locs : List Loc, locs = [] := ⟨_, rfl⟩
  have hP : va_P D vwCl (ws) H := by rw [hH0]; exact hP
  have hS : va_S A s.heap H locs := by rw [hH0, hlocs0]; exact hS
  have hl : lv_has ls 2 [(0, .int a0), (1, .int a1)] := hl
  suffices hgoal : W p l e rmJ0_checkIndex_df160 s m ([.int a0, .int a1] : List Value).toArray below meth c H locs 0 0 (MQ below (kQv D A (ws)) ([.int a0, .int a1] : List Value).toArray s 0 0 A) (F0 m 0 ls []) by rw [hH0, hlocs0] at hgoal; exact hgoal
  clear hH0 hlocs0
  unfold mJ0_checkIndex_df160 at hf
  refine lv_iload_n hx hb dJ0_checkIndex_df160_0 rfl (lv_at hl 0 rfl) ?_
  refine lv_iload_n hx hb dJ0_checkIndex_df160_1 rfl (lv_at hl 1 rfl) ?_
  rcases hE.2.2.2.2.2.2.2.2 with hz | ⟨tz, hz⟩
  · refine va_gets hx hb hz hS hown (hts _ wB223) (fun _ h9 => h9) dJ0_checkIndex_df160_2 ?_
    obtain ⟨r5, h5r, hf⟩ := o_bs hf
    refine k_goi (va_runS (As := [.int a0, .int a1, .null]) (rest := []) ⟨hx, hb, hml, hown, hts⟩ (cJ3_checkIndex_8e157_z l D cy sa (ws) H.size a0 a1  r5  h5r) (va_cwS 3 hts (gB_S wB224 wB225 wB226 wB227) rfl rfl rfl (by decide +kernel) ⟨Nat.le_of_ble_eq_true rfl, Nat.le_of_ble_eq_true rfl⟩) ⟨kP.blind, k_pre hP hD hS hE hA⟩ rfl rfl hl.1 rfl (lv_room (Nat.le_of_ble_eq_true rfl)) dJ0_checkIndex_df160_5 ⟨Nat.zero_le _, Nat.zero_le _⟩) hD hS hA (fun H locs hP hD hS => ?_)
    refine lv_pop hx hb dJ0_checkIndex_df160_8 rfl ?_
    obtain rfl := o_ret hf
    exact k_vret hx hb hr hP hD hS (Nat.zero_le _) (Nat.zero_le _) hlocks dJ0_checkIndex_df160_9
  · refine va_gets hx hb hz hS hown (hts _ wB223) (fun _ h9 => h9) dJ0_checkIndex_df160_2 ?_
    obtain ⟨r5, h5r, hf⟩ := o_bs hf
    refine k_goi (va_runS (As := [.int a0, .int a1, .ref tz]) (rest := []) ⟨hx, hb, hml, hown, hts⟩ (cJ3_checkIndex_8e157 l D cy sa (ws) H.size a0 a1 tz r5  h5r) (va_cwS 3 hts (gB_S wB224 wB225 wB226 wB227) rfl rfl rfl (by decide +kernel) ⟨Nat.le_of_ble_eq_true rfl, Nat.le_of_ble_eq_true rfl⟩) ⟨kP.blind, k_pre hP hD hS hE hA⟩ rfl rfl hl.1 rfl (lv_room (Nat.le_of_ble_eq_true rfl)) dJ0_checkIndex_df160_5 ⟨Nat.zero_le _, Nat.zero_le _⟩) hD hS hA (fun H locs hP hD hS => ?_)
    refine lv_pop hx hb dJ0_checkIndex_df160_8 rfl ?_
    obtain rfl := o_ret hf
    exact k_vret hx hb hr hP hD hS (Nat.zero_le _) (Nat.zero_le _) hlocks dJ0_checkIndex_df160_9
noncomputable def mJ1_charAt_3b067 (w0 : Nat) (a1 : Int32) : Option (Int32) :=
  (mJ0_checkIndex_df160 a1 (kSl w0)).bind fun r3 =>
  gd (inb a1 (kStrLen.getD w0 0)) (gd (0 ≤ ((((kSc w0 a1) &&& 255).toUInt32 % 65536).toInt32) ∧ ((((kSc w0 a1) &&& 255).toUInt32 % 65536).toInt32) < 256) (some ((((kSc w0 a1) &&& 255).toUInt32 % 65536).toInt32)))
abbrev rmJ1_charAt_3b067 : Room := { frames := 2, cells := 0, slots := 0, locals := 43 }
set_option maxRecDepth 100000 in
set_option maxHeartbeats 4000000 in
theorem cJ1_charAt_3b067 (l : Launch) (D : va_G) (cy : Nat → ClassId) (sa : Nat → Nat) (ws : va_W) (sz : Nat) (w0 : Nat) (a1 : Int32) (res : Int32) (hw : w0 < 4) (hf : mJ1_charAt_3b067 w0 a1 = some res) : kMi l yJ1_charAt_3b067 (wsK yJ1_charAt_3b067 cJ1_charAt_3b067 2 (some .char)) rmJ1_charAt_3b067 D cy sa (ws) sz [.ref (sa (4 + w0)), .int a1] res (ws) 0 0 := by
  refine kM_of (Qc := fun A => kQi D A res (ws)) (cc := cJ1_charAt_3b067) (maxL := 2) (ret := (some .char)) (by decide) (Nat.le_of_ble_eq_true rfl) ?_
  intro p e s m below meth c A hx hb hml hr hts hown hlocks hin hA hP hD hS hE hsz ls hl
  have hown : s.vm.findClass RJ1 = some m.cls := hown
  obtain ⟨H, hH0⟩ : ∃ H, H = s.heap := ⟨_, rfl⟩
  obtain ⟨locs, hlocs0⟩ : ∃ locs : List Loc, locs = [] := ⟨_, rfl⟩
  have hP : va_P D vwCl (ws) H := by rw [hH0]; exact hP
  have hS : va_S A s.heap H locs := by rw [hH0, hlocs0]; exact hS
  have hl : lv_has ls 2 [(0, .ref (sa (4 + w0))), (1, .int a1)] := hl
  suffices hgoal : W p l e rmJ1_charAt_3b067 s m ([.ref (sa (4 + w0)), .int a1] : List Value).toArray below meth c H locs 0 0 (MQ below (kQi D A res (ws)) ([.ref (sa (4 + w0)), .int a1] : List Value).toArray s 0 0 A) (F0 m 0 ls []) by rw [hH0, hlocs0] at hgoal; exact hgoal
  clear hH0 hlocs0
  unfold mJ1_charAt_3b067 at hf
  refine lv_iload_n hx hb dJ1_charAt_3b067_0 rfl (lv_at hl 1 rfl) ?_
  refine lv_aload_n hx hb dJ1_charAt_3b067_1 rfl (lv_at hl 0 rfl) ?_
  refine va_tlen (v := kSl w0) hx hb (hE.2.2.1.1 _ hw).2.2.2 hS rfl dJ1_charAt_3b067_2 ?_
  obtain ⟨r3, h3r, hf⟩ := o_bs hf
  refine k_gov (va_runS (As := [.int a1, .int (kSl w0)]) (rest := []) ⟨hx, hb, hml, hown, hts⟩ (cJ0_checkIndex_df160 l D cy sa (ws) H.size a1 (kSl w0)  r3  h3r) (va_cwS 2 hts (gB_S wB220 wB221 wB199 wB222) rfl rfl rfl (by decide +kernel) ⟨Nat.le_of_ble_eq_true rfl, Nat.le_of_ble_eq_true rfl⟩) ⟨kP.blind, k_pre hP hD hS hE hA⟩ rfl rfl hl.1 rfl (lv_room (Nat.le_of_ble_eq_true rfl)) dJ1_charAt_3b067_3 ⟨Nat.zero_le _, Nat.zero_le _⟩) hD hS hA (fun H locs hP hD hS => ?_)
  refine lv_aload_n hx hb dJ1_charAt_3b067_6 rfl (lv_at hl 0 rfl) ?_
  refine lv_iload_n hx hb dJ1_charAt_3b067_7 rfl (lv_at hl 1 rfl) ?_
  obtain ⟨hg8, hf⟩ := gd_s hf
  refine va_tb (v := .int (kSc w0 a1)) hx hb (hE.2.2.1.1 _ hw).2.2.2 hS hg8 rfl dJ1_charAt_3b067_8 ?_
  refine lv_sipush (v := 255) hx hb dJ1_charAt_3b067_9 (by decide) ?_
  refine lv_iand hx hb dJ1_charAt_3b067_12 ?_
  refine lv_i2c (v := ((((kSc w0 a1) &&& 255).toUInt32 % 65536).toInt32)) hx hb dJ1_charAt_3b067_13 rfl ?_
  obtain ⟨hgz, hf⟩ := gd_s hf
  obtain rfl := o_ret hf
  exact k_zret hx hb hr hP hD hS (k_narC hgz) (Nat.zero_le _) (Nat.zero_le _) hlocks dJ1_charAt_3b067_14
noncomputable def mJ0_charAt_5068e (w0 : Nat) (a1 : Int32) : Option (Int32) :=
  (mJ0_isLatin1_aae02 w0).bind fun r1 =>
  if r1 = 0 then
  (none)
  else
  ((mJ1_charAt_3b067 w0 a1).bind fun r12 =>
  gd (0 ≤ r12 ∧ r12 < 256) (some r12))
abbrev rmJ0_charAt_5068e : Room := { frames := 3, cells := 0, slots := 0, locals := 64 }
set_option maxRecDepth 100000 in
set_option maxHeartbeats 4000000 in
theorem cJ0_charAt_5068e (l : Launch) (D : va_G) (cy : Nat → ClassId) (sa : Nat → Nat) (ws : va_W) (sz : Nat) (w0 : Nat) (a1 : Int32) (res : Int32) (hw : w0 < 4) (hf : mJ0_charAt_5068e w0 a1 = some res) : kMi l yJ0_charAt_5068e (wsK yJ0_charAt_5068e cJ0_charAt_5068e 2 (some .char)) rmJ0_charAt_5068e D cy sa (ws) sz [.ref (sa w0), .int a1] res (ws) 0 0 := by
  refine kM_of (Qc := fun A => kQi D A res (ws)) (cc := cJ0_charAt_5068e) (maxL := 2) (ret := (some .char)) (by decide) (Nat.le_of_ble_eq_true rfl) ?_
  intro p e s m below meth c A hx hb hml hr hts hown hlocks hin hA hP hD hS hE hsz ls hl
  have hown : s.vm.findClass RJ0 = some m.cls := hown
  obtain ⟨H, hH0⟩ : ∃ H, H = s.heap := ⟨_, rfl⟩
  obtain ⟨locs, hlocs0⟩ : ∃ locs : List Loc, locs = [] := ⟨_, rfl⟩
  have hP : va_P D vwCl (ws) H := by rw [hH0]; exact hP
  have hS : va_S A s.heap H locs := by rw [hH0, hlocs0]; exact hS
  have hl : lv_has ls 2 [(0, .ref (sa w0)), (1, .int a1)] := hl
  suffices hgoal : W p l e rmJ0_charAt_5068e s m ([.ref (sa w0), .int a1] : List Value).toArray below meth c H locs 0 0 (MQ below (kQi D A res (ws)) ([.ref (sa w0), .int a1] : List Value).toArray s 0 0 A) (F0 m 0 ls []) by rw [hH0, hlocs0] at hgoal; exact hgoal
  clear hH0 hlocs0
  unfold mJ0_charAt_5068e at hf
  refine lv_aload_n hx hb dJ0_charAt_5068e_0 rfl (lv_at hl 0 rfl) ?_
  obtain ⟨r1, h1r, hf⟩ := o_bs hf
  refine k_goi (va_runV (As := []) (rest := []) ⟨hx, hb, hml, hown, hts⟩ (cJ0_isLatin1_aae02 l D cy sa (ws) H.size w0  r1 hw h1r) (cwV 0 hts (gB_V wB212 wB213 wB214 wB199 wB215) rfl rfl rfl (by decide +kernel) ⟨Nat.le_of_ble_eq_true rfl, Nat.le_of_ble_eq_true rfl⟩) ⟨kP.blind, vk_recv hE.2.2.1 hw hS, k_pre hP hD hS hE hA⟩ rfl rfl hl.1 rfl (lv_room (Nat.le_of_ble_eq_true rfl)) dJ0_charAt_5068e_1 ⟨Nat.zero_le _, Nat.zero_le _⟩) hD hS hA (fun H locs hP hD hS => ?_)
  refine lv_if_eq (tgt := 16) hx hb dJ0_charAt_5068e_4 (by decide) (fun c4 => ?_) (fun c4 => ?_)
  · have hf := o_ip c4 hf
    cases hf
  · have hf := o_in c4 hf
    refine lv_aload_n hx hb dJ0_charAt_5068e_7 rfl (lv_at hl 0 rfl) ?_
    refine vk_getf hx hb (hE.2.2.1.1 _ hw).2.2.1 hS hown (hts _ wB201) (fun _ h9 => h9) dJ0_charAt_5068e_8 ?_
    refine lv_iload_n hx hb dJ0_charAt_5068e_11 rfl (lv_at hl 1 rfl) ?_
    obtain ⟨r12, h12r, hf⟩ := o_bs hf
    refine k_goi (va_runS (As := [.ref (sa (4 + w0)), .int a1]) (rest := []) ⟨hx, hb, hml, hown, hts⟩ (cJ1_charAt_3b067 l D cy sa (ws) H.size w0 a1  r12 hw h12r) (va_cwS 2 hts (gB_S wB216 wB217 wB218 wB219) rfl rfl rfl (by decide +kernel) ⟨Nat.le_of_ble_eq_true rfl, Nat.le_of_ble_eq_true rfl⟩) ⟨kP.blind, k_pre hP hD hS hE hA⟩ rfl rfl hl.1 rfl (lv_room (Nat.le_of_ble_eq_true rfl)) dJ0_charAt_5068e_12 ⟨Nat.zero_le _, Nat.zero_le _⟩) hD hS hA (fun H locs hP hD hS => ?_)
    obtain ⟨hgz, hf⟩ := gd_s hf
    obtain rfl := o_ret hf
    exact k_zret hx hb hr hP hD hS (k_narC hgz) (Nat.zero_le _) (Nat.zero_le _) hlocks dJ0_charAt_5068e_15
noncomputable def mX0_isWord_s15 (n0 : Nat) (f0 : Nat → Int32) (c1 : Int32) (c3 : Nat) (s15 : Int32) : Option ((Unit ⊕ Unit) ⊕ (Int32)) :=
  (mJ0_length_8abf5 c3).bind fun r18 =>
  if r18 ≤ s15 then
  (some (.inl (.inl ())))
  else
  ((mX5_at n0 f0 (c1 + s15)).bind fun r29 =>
  (mJ0_charAt_5068e c3 s15).bind fun r35 =>
  if r29 = r35 then
  (some (.inr (s15 + 1)))
  else
  (some (.inl (.inr ()))))
noncomputable def mX0_isWord (n0 : Nat) (f0 : Nat → Int32) (a1 : Int32) (a2 : Int32) (w3 : Nat) : Option (Int32) :=
  (mJ0_length_8abf5 w3).bind fun r4 =>
  if (a2 - a1) = r4 then
  ((lpF (mX0_isWord_s15 n0 f0 a1 w3) 0).bind (oE (fun e15_0 => some 1) (fun e15_1 => some 0)))
  else
  (some 0)
abbrev rmX0_isWord : Room := { frames := 4, cells := 0, slots := 0, locals := 85 }
set_option maxRecDepth 100000 in
set_option maxHeartbeats 4000000 in
theorem cX0_isWord (l : Launch) (D : va_G) (cy : Nat → ClassId) (sa : Nat → Nat) (ws : va_W) (sz : Nat) (k0 d0 n0 : Nat) (f0 : Nat → Int32) (a1 : Int32) (a2 : Int32) (w3 : Nat) (res : Int32) (ha0 : ws[k0]? = some (kII d0 (cy 0) n0 f0)) (hw : w3 < 4) (hf : mX0_isWord n0 f0 a1 a2 w3 = some res) : kMi l yX0_isWord (wsK yX0_isWord cX0_isWord 5 (some .boolean)) rmX0_isWord D cy sa (ws) sz [.ref d0, .int a1, .int a2, .ref (sa w3)] res (ws) 0 0 := by
  refine kM_of (Qc := fun A => kQi D A res (ws)) (cc := cX0_isWord) (maxL := 5) (ret := (some .boolean)) (by decide) (Nat.le_of_ble_eq_true rfl) ?_
  intro p e s m below meth c A hx hb hml hr hts hown hlocks hin hA hP hD hS hE hsz ls hl
  have hown : s.vm.findClass RX0 = some m.cls := hown
  obtain ⟨H, hH0⟩ : ∃ H, H = s.heap := ⟨_, rfl⟩
  obtain ⟨locs, hlocs0⟩ : ∃ locs : List Loc, locs = [] := ⟨_, rfl⟩
  have hP : va_P D vwCl (ws) H := by rw [hH0]; exact hP
  have hS : va_S A s.heap H locs := by rw [hH0, hlocs0]; exact hS
  have hl : lv_has ls 5 [(0, .ref d0), (1, .int a1), (2, .int a2), (3, .ref (sa w3))] := hl
  suffices hgoal : W p l e rmX0_isWord s m ([.ref d0, .int a1, .int a2, .ref (sa w3)] : List Value).toArray below meth c H locs 0 0 (MQ below (kQi D A res (ws)) ([.ref d0, .int a1, .int a2, .ref (sa w3)] : List Value).toArray s 0 0 A) (F0 m 0 ls []) by rw [hH0, hlocs0] at hgoal; exact hgoal
  clear hH0 hlocs0
  unfold mX0_isWord at hf
  refine lv_iload_n hx hb dX0_isWord_0 rfl (lv_at hl 2 rfl) ?_
  refine lv_iload_n hx hb dX0_isWord_1 rfl (lv_at hl 1 rfl) ?_
  refine lv_isub hx hb dX0_isWord_2 ?_
  refine lv_aload_n hx hb dX0_isWord_3 rfl (lv_at hl 3 rfl) ?_
  obtain ⟨r4, h4r, hf⟩ := o_bs hf
  refine k_goi (va_runV (As := []) (rest := [.int (a2 - a1)]) ⟨hx, hb, hml, hown, hts⟩ (cJ0_length_8abf5 l D cy sa (ws) H.size w3  r4 hw h4r) (cwV 0 hts (gB_V wB196 wB197 wB198 wB199 wB200) rfl rfl rfl (by decide +kernel) ⟨Nat.le_of_ble_eq_true rfl, Nat.le_of_ble_eq_true rfl⟩) ⟨kP.blind, vk_recv hE.2.2.1 hw hS, k_pre hP hD hS hE hA⟩ rfl rfl hl.1 rfl (lv_room (Nat.le_of_ble_eq_true rfl)) dX0_isWord_4 ⟨Nat.zero_le _, Nat.zero_le _⟩) hD hS hA (fun H locs hP hD hS => ?_)
  refine lv_icmp_eq (tgt := 12) hx hb dX0_isWord_7 (by decide) (fun c7 => ?_) (fun c7 => ?_)
  · have hf := o_ip c7 hf
    refine lv_iconst (v := 0) hx hb dX0_isWord_12 (by decide) ?_
    refine lv_istore (lv' := [(4, .int 0), (0, .ref d0), (1, .int a1), (2, .int a2), (3, .ref (sa w3))]) hx hb dX0_isWord_13 hl (by decide) rfl (fun ls hl => ?_)
    have L15 : ∀ (n15v : Nat) (s15 : Int32) (e15 : Unit ⊕ Unit), lpO (mX0_isWord_s15 n0 f0 a1 w3) n15v s15 = some e15 → ∀ (H : Heap) (locs : List Loc) (ls : Array Slot), va_P D vwCl (ws) H → va_D A (ws) → va_S A s.heap H locs → lv_has ls 5 [(0, .ref d0), (1, .int a1), (3, .ref (sa w3)), (4, .int s15)] → (∀ e15_0 : Unit, e15 = (.inl e15_0) → ∀ (H : Heap) (locs : List Loc) (ls : Array Slot), va_P D vwCl (ws) H → va_D A (ws) → va_S A s.heap H locs → lv_has ls 5 [] → W p l e rmX0_isWord s m ([.ref d0, .int a1, .int a2, .ref (sa w3)] : List Value).toArray below meth c H locs 0 0 (MQ below (kQi D A res (ws)) ([.ref d0, .int a1, .int a2, .ref (sa w3)] : List Value).toArray s 0 0 A) (F0 m 49 ls [])) → (∀ e15_1 : Unit, e15 = (.inr e15_1) → ∀ (H : Heap) (locs : List Loc) (ls : Array Slot), va_P D vwCl (ws) H → va_D A (ws) → va_S A s.heap H locs → lv_has ls 5 [] → W p l e rmX0_isWord s m ([.ref d0, .int a1, .int a2, .ref (sa w3)] : List Value).toArray below meth c H locs 0 0 (MQ below (kQi D A res (ws)) ([.ref d0, .int a1, .int a2, .ref (sa w3)] : List Value).toArray s 0 0 A) (F0 m 41 ls [])) → W p l e rmX0_isWord s m ([.ref d0, .int a1, .int a2, .ref (sa w3)] : List Value).toArray below meth c H locs 0 0 (MQ below (kQi D A res (ws)) ([.ref d0, .int a1, .int a2, .ref (sa w3)] : List Value).toArray s 0 0 A) (F0 m 15 ls []) := by
      intro n15v
      induction n15v with
      | zero => intro s15 e15 h; exact (lpO_z h).elim
      | succ n15v ih15 =>
        intro s15 e15 h15z H locs ls hP hD hS hl K15_0 K15_1
        obtain ⟨x15, hf, h15z⟩ := lpO_s h15z
        unfold mX0_isWord_s15 at hf
        refine lv_iload hx hb dX0_isWord_15 (lv_at hl 3 rfl) ?_
        refine lv_aload_n hx hb dX0_isWord_17 rfl (lv_at hl 2 rfl) ?_
        obtain ⟨r18, h18r, hf⟩ := o_bs hf
        refine k_goi (va_runV (As := []) (rest := [.int s15]) ⟨hx, hb, hml, hown, hts⟩ (cJ0_length_8abf5 l D cy sa (ws) H.size w3  r18 hw h18r) (cwV 0 hts (gB_V wB196 wB197 wB198 wB199 wB200) rfl rfl rfl (by decide +kernel) ⟨Nat.le_of_ble_eq_true rfl, Nat.le_of_ble_eq_true rfl⟩) ⟨kP.blind, vk_recv hE.2.2.1 hw hS, k_pre hP hD hS hE hA⟩ rfl rfl hl.1 rfl (lv_room (Nat.le_of_ble_eq_true rfl)) dX0_isWord_18 ⟨Nat.zero_le _, Nat.zero_le _⟩) hD hS hA (fun H locs hP hD hS => ?_)
        refine lv_icmp_ge (tgt := 49) hx hb dX0_isWord_21 (by decide) (fun c21 => ?_) (fun c21 => ?_)
        · have hf := o_ip c21 hf
          obtain rfl := o_ret hf
          obtain rfl := lpK_l h15z
          exact K15_0 _ rfl _ _ _ hP hD hS (lv_sub hl [] rfl)
        · have hf := o_in c21 hf
          refine lv_aload_n hx hb dX0_isWord_24 rfl (lv_at hl 0 rfl) ?_
          refine lv_iload_n hx hb dX0_isWord_25 rfl (lv_at hl 1 rfl) ?_
          refine lv_iload hx hb dX0_isWord_26 (lv_at hl 3 rfl) ?_
          refine lv_iadd hx hb dX0_isWord_28 ?_
          obtain ⟨r29, h29r, hf⟩ := o_bs hf
          refine k_goi (va_runSN (As := [.ref d0, .int (a1 + s15)]) (rest := []) ⟨hx, hb, hml, hown, hts⟩ (cX5_at l D cy sa (ws) H.size k0 d0 n0 f0 (a1 + s15) r29 ha0 h29r) ⟨va_cnB 2 hts (gB_K wB177) rfl rfl rfl (hE.2.1.1 _ (List.mem_of_getElem? (i := 4) rfl)) (hts _ wB2) (by decide +kernel) ⟨Nat.le_of_ble_eq_true rfl, Nat.le_of_ble_eq_true rfl⟩, hts _ wB176, trivial⟩ ⟨kP.blind, k_pre hP hD hS hE hA⟩ rfl rfl hl.1 rfl (lv_room (Nat.le_of_ble_eq_true rfl)) dX0_isWord_29 ⟨Nat.zero_le _, Nat.zero_le _⟩) hD hS hA (fun H locs hP hD hS => ?_)
          refine lv_aload_n hx hb dX0_isWord_32 rfl (lv_at hl 2 rfl) ?_
          refine lv_iload hx hb dX0_isWord_33 (lv_at hl 3 rfl) ?_
          obtain ⟨r35, h35r, hf⟩ := o_bs hf
          refine k_goi (va_runV (As := [.int s15]) (rest := [.int r29]) ⟨hx, hb, hml, hown, hts⟩ (cJ0_charAt_5068e l D cy sa (ws) H.size w3 s15  r35 hw h35r) (cwV 1 hts (gB_V wB208 wB209 wB210 wB199 wB211) rfl rfl rfl (by decide +kernel) ⟨Nat.le_of_ble_eq_true rfl, Nat.le_of_ble_eq_true rfl⟩) ⟨kP.blind, vk_recv hE.2.2.1 hw hS, k_pre hP hD hS hE hA⟩ rfl rfl hl.1 rfl (lv_room (Nat.le_of_ble_eq_true rfl)) dX0_isWord_35 ⟨Nat.zero_le _, Nat.zero_le _⟩) hD hS hA (fun H locs hP hD hS => ?_)
          refine lv_icmp_eq (tgt := 43) hx hb dX0_isWord_38 (by decide) (fun c38 => ?_) (fun c38 => ?_)
          · have hf := o_ip c38 hf
            refine lv_iinc (v := (s15 + 1)) (lv' := [(4, .int (s15 + 1)), (0, .ref d0), (1, .int a1), (3, .ref (sa w3))]) hx hb dX0_isWord_43 hl (k := 3) rfl (by rfl) (by decide) rfl (fun ls hl => ?_)
            refine lv_goto (tgt := 15) hx hb dX0_isWord_46 (by decide) ?_
            obtain rfl := o_ret hf
            exact ih15 _ _ (lpK_r h15z) _ _ _ hP hD hS (lv_sub hl [1, 2, 3, 0] rfl) K15_0 K15_1
          · have hf := o_in c38 hf
            obtain rfl := o_ret hf
            obtain rfl := lpK_l h15z
            exact K15_1 _ rfl _ _ _ hP hD hS (lv_sub hl [] rfl)
    obtain ⟨e15, h15q, hf⟩ := o_bs hf
    obtain ⟨n15v, h15q⟩ := lpF_ex h15q
    refine L15 n15v _ e15 h15q _ _ _ hP hD hS (lv_sub hl [1, 2, 4, 0] rfl) ?_ ?_
    · intro e15_0 ez15 H locs ls hP hD hS hl
      subst ez15
      have hf := oE_l hf
      refine lv_iconst (v := 1) hx hb dX0_isWord_49 (by decide) ?_
      obtain rfl := o_ret hf
      exact k_zret hx hb hr hP hD hS rfl (Nat.zero_le _) (Nat.zero_le _) hlocks dX0_isWord_50
    · intro e15_1 ez15 H locs ls hP hD hS hl
      subst ez15
      have hf := oE_r hf
      refine lv_iconst (v := 0) hx hb dX0_isWord_41 (by decide) ?_
      obtain rfl := o_ret hf
      exact k_zret hx hb hr hP hD hS rfl (Nat.zero_le _) (Nat.zero_le _) hlocks dX0_isWord_42
  · have hf := o_in c7 hf
    refine lv_iconst (v := 0) hx hb dX0_isWord_10 (by decide) ?_
    obtain rfl := o_ret hf
    exact k_zret hx hb hr hP hD hS rfl (Nat.zero_le _) (Nat.zero_le _) hlocks dX0_isWord_11
noncomputable def mX5_copy_s2 (n0 : Nat) (f0 : Nat → Int32) (n1 : Nat) (s2 : Int32 × ((Nat → Int32))) : Option ((((Nat → Int32))) ⊕ (Int32 × ((Nat → Int32)))) :=
  if (Int32.ofNat n0) ≤ s2.1 then
  (some (.inl s2.2))
  else
  (if (Int32.ofNat n1) ≤ s2.1 then
  (some (.inl s2.2))
  else
  (gd (inb s2.1 n0) (gd (inb s2.1 n1) (some (.inr ((s2.1 + 1), (upd s2.2 (s2.1.toNatClampNeg) (f0 (s2.1.toNatClampNeg)))))))))
noncomputable def mX5_copy (n0 : Nat) (f0 : Nat → Int32) (n1 : Nat) (f1 : Nat → Int32) : Option (((Nat → Int32))) :=
  (lpF (mX5_copy_s2 n0 f0 n1) (0, f1)).bind fun e2 =>
  some e2
abbrev rmX5_copy : Room := { frames := 0, cells := 0, slots := 0, locals := 0 }
set_option maxRecDepth 100000 in
set_option maxHeartbeats 4000000 in
theorem cX5_copy (l : Launch) (D : va_G) (cy : Nat → ClassId) (sa : Nat → Nat) (ws : va_W) (sz : Nat) (k0 d0 n0 : Nat) (f0 : Nat → Int32) (k1 d1 n1 : Nat) (f1 : Nat → Int32) (res : ((Nat → Int32))) (ha0 : ws[k0]? = some (kII d0 (cy 0) n0 f0)) (ha1 : ws[k1]? = some (kII d1 (cy 0) n1 f1)) (hk01 : k0 ≠ k1) (hf : mX5_copy n0 f0 n1 f1 = some res) : kMv l yX5_copy (wsK yX5_copy cX5_copy 3 none) rmX5_copy D cy sa (ws) sz [.ref d0, .ref d1] ((ws.set k1 (kII d1 (cy 0) n1 res))) 0 0 := by
  refine kM_of (Qc := fun A => kQv D A ((ws.set k1 (kII d1 (cy 0) n1 res)))) (cc := cX5_copy) (maxL := 3) (ret := none) (by decide) (Nat.le_of_ble_eq_true rfl) ?_
  intro p e s m below meth c A hx hb hml hr hts hown hlocks hin hA hP hD hS hE hsz ls hl
  have hown : s.vm.findClass RX5 = some m.cls := hown
  have hk10 : k1 ≠ k0 := fun h => hk01 h.symm
  obtain ⟨H, hH0⟩ : ∃ H, H = s.heap := ⟨_, rfl⟩
  obtain ⟨locs, hlocs0⟩ : ∃ locs : List Loc, locs = [] := ⟨_, rfl⟩
  have hP : va_P D vwCl (ws) H := by rw [hH0]; exact hP
  have hS : va_S A s.heap H locs := by rw [hH0, hlocs0]; exact hS
  have hl : lv_has ls 3 [(0, .ref d0), (1, .ref d1)] := hl
  suffices hgoal : W p l e rmX5_copy s m ([.ref d0, .ref d1] : List Value).toArray below meth c H locs 0 0 (MQ below (kQv D A ((ws.set k1 (kII d1 (cy 0) n1 res)))) ([.ref d0, .ref d1] : List Value).toArray s 0 0 A) (F0 m 0 ls []) by rw [hH0, hlocs0] at hgoal; exact hgoal
  clear hH0 hlocs0
  unfold mX5_copy at hf
  refine lv_iconst (v := 0) hx hb dX5_copy_0 (by decide) ?_
  refine lv_istore_n (lv' := [(2, .int 0), (0, .ref d0), (1, .ref d1)]) hx hb dX5_copy_1 rfl hl (by decide) rfl (fun ls hl => ?_)
  have hP : va_P D vwCl ((ws.set k1 (kII d1 (cy 0) n1 f1))) H := by rw [k_setself ha1]; exact hP
  have hD : va_D A ((ws.set k1 (kII d1 (cy 0) n1 f1))) := by rw [k_setself ha1]; exact hD
  have L2 : ∀ (n2v : Nat) (s2 : Int32 × ((Nat → Int32))) (e2 : ((Nat → Int32))), lpO (mX5_copy_s2 n0 f0 n1) n2v s2 = some e2 → ∀ (H : Heap) (locs : List Loc) (ls : Array Slot), va_P D vwCl ((ws.set k1 (kII d1 (cy 0) n1 s2.2))) H → va_D A ((ws.set k1 (kII d1 (cy 0) n1 s2.2))) → va_S A s.heap H locs → lv_has ls 3 [(0, .ref d0), (1, .ref d1), (2, .int s2.1)] → (∀ (H : Heap) (locs : List Loc) (ls : Array Slot), va_P D vwCl ((ws.set k1 (kII d1 (cy 0) n1 e2))) H → va_D A ((ws.set k1 (kII d1 (cy 0) n1 e2))) → va_S A s.heap H locs → lv_has ls 3 [] → W p l e rmX5_copy s m ([.ref d0, .ref d1] : List Value).toArray below meth c H locs 0 0 (MQ below (kQv D A ((ws.set k1 (kII d1 (cy 0) n1 res)))) ([.ref d0, .ref d1] : List Value).toArray s 0 0 A) (F0 m 26 ls [])) → W p l e rmX5_copy s m ([.ref d0, .ref d1] : List Value).toArray below meth c H locs 0 0 (MQ below (kQv D A ((ws.set k1 (kII d1 (cy 0) n1 res)))) ([.ref d0, .ref d1] : List Value).toArray s 0 0 A) (F0 m 2 ls []) := by
    intro n2v
    induction n2v with
    | zero => intro s2 e2 h; exact (lpO_z h).elim
    | succ n2v ih2 =>
      intro s2 e2 h2z H locs ls hP hD hS hl K2_0
      obtain ⟨x2, hf, h2z⟩ := lpO_s h2z
      unfold mX5_copy_s2 at hf
      refine lv_iload_n hx hb dX5_copy_2 rfl (lv_at hl 2 rfl) ?_
      refine lv_aload_n hx hb dX5_copy_3 rfl (lv_at hl 0 rfl) ?_
      refine va_alen (v := (Int32.ofNat n0)) hx hb hE.1 hP k0 0 (k_gother hk10 ha0) rfl rfl dX5_copy_4 ?_
      refine lv_icmp_ge (tgt := 26) hx hb dX5_copy_5 (by decide) (fun c5 => ?_) (fun c5 => ?_)
      · have hf := o_ip c5 hf
        obtain rfl := o_ret hf
        obtain rfl := lpK_l h2z
        exact K2_0 _ _ _ hP hD hS (lv_sub hl [] rfl)
      · have hf := o_in c5 hf
        refine lv_iload_n hx hb dX5_copy_8 rfl (lv_at hl 2 rfl) ?_
        refine lv_aload_n hx hb dX5_copy_9 rfl (lv_at hl 1 rfl) ?_
        refine va_alen (v := (Int32.ofNat n1)) hx hb hE.1 hP k1 0 (k_gset ha1) rfl rfl dX5_copy_10 ?_
        refine lv_icmp_ge (tgt := 26) hx hb dX5_copy_11 (by decide) (fun c11 => ?_) (fun c11 => ?_)
        · have hf := o_ip c11 hf
          obtain rfl := o_ret hf
          obtain rfl := lpK_l h2z
          exact K2_0 _ _ _ hP hD hS (lv_sub hl [] rfl)
        · have hf := o_in c11 hf
          refine lv_aload_n hx hb dX5_copy_14 rfl (lv_at hl 1 rfl) ?_
          refine lv_iload_n hx hb dX5_copy_15 rfl (lv_at hl 2 rfl) ?_
          refine lv_aload_n hx hb dX5_copy_16 rfl (lv_at hl 0 rfl) ?_
          refine lv_iload_n hx hb dX5_copy_17 rfl (lv_at hl 2 rfl) ?_
          obtain ⟨hg18, hf⟩ := gd_s hf
          refine va_iald (f := f0) hx hb hE.1 hP k0 0 (k_gother hk10 ha0) rfl hg18 dX5_copy_18 ?_
          obtain ⟨hg19, hf⟩ := gd_s hf
          refine va_iast (f := s2.2) hx hb hE.1 hP hD hS k1 0 (k_gset ha1) rfl hg19 dX5_copy_19 (fun H locs hP hD hS => ?_)
          have hP : va_P D vwCl ((ws.set k1 (kII d1 (cy 0) n1 (upd s2.2 (s2.1.toNatClampNeg) (f0 (s2.1.toNatClampNeg)))))) H := by rw [List.set_set] at hP; exact hP
          have hD : va_D A ((ws.set k1 (kII d1 (cy 0) n1 (upd s2.2 (s2.1.toNatClampNeg) (f0 (s2.1.toNatClampNeg)))))) := by rw [List.set_set] at hD; exact hD
          refine lv_iinc (v := (s2.1 + 1)) (lv' := [(2, .int (s2.1 + 1)), (0, .ref d0), (1, .ref d1)]) hx hb dX5_copy_20 hl (k := 2) rfl (by rfl) (by decide) rfl (fun ls hl => ?_)
          refine lv_goto (tgt := 2) hx hb dX5_copy_23 (by decide) ?_
          obtain rfl := o_ret hf
          exact ih2 _ _ (lpK_r h2z) _ _ _ hP hD hS (lv_sub hl [1, 2, 0] rfl) K2_0
  obtain ⟨e2, h2q, hf⟩ := o_bs hf
  obtain ⟨n2v, h2q⟩ := lpF_ex h2q
  refine L2 n2v _ e2 h2q _ _ _ hP hD hS (lv_sub hl [1, 2, 0] rfl) ?_
  intro H locs ls hP hD hS hl
  obtain rfl := o_ret hf
  exact k_vret hx hb hr hP hD hS (Nat.zero_le _) (Nat.zero_le _) hlocks dX5_copy_26
noncomputable def mX3_become (u : KS) : Option (KS) :=
  (mX5_copy 120 (gR u 11) 120 (gR u 1)).bind fun r8 =>
  (mX5_copy 4 (gR u 12) 4 (gR u 2)).bind fun r27 =>
  (mX5_copy 7 (gR u 13) 7 (gR u 3)).bind fun r38 =>
  (mX5_copy 4 (gR u 14) 4 (gR u 4)).bind fun r49 =>
  (mX5_copy 32 (gR u 15) 32 (gR u 5)).bind fun r60 =>
  (mX5_copy 18 (gR u 16) 18 (gR u 6)).bind fun r79 =>
  some (sR (sR (sR (sR (sR (sR (sI (sI (sI u 2 (gI u 12)) 3 (gI u 13)) 4 (gI u 14)) 1 r8) 2 r27) 3 r38) 4 r49) 5 r60) 6 r79)
abbrev rmX3_become : Room := { frames := 1, cells := 0, slots := 0, locals := 22 }
set_option maxRecDepth 100000 in
set_option maxHeartbeats 4000000 in
theorem cX3_become (l : Launch) (D : va_G) (cy : Nat → ClassId) (sa : Nat → Nat) (q : Nat → Nat) (rest : va_W) (sz : Nat) (u : KS) (res : KS) (hf : mX3_become u = some res) : kMv l yX3_become (wsK yX3_become cX3_become 2 none) rmX3_become D cy sa (WKK q cy u ++ rest) sz [.ref (q 0), .ref (q 7)] (WKK q cy res ++ rest) 0 0 := by
  refine kM_of (Qc := fun A => kQv D A (WKK q cy res ++ rest)) (cc := cX3_become) (maxL := 2) (ret := none) (by decide) (Nat.le_of_ble_eq_true rfl) ?_
  intro p e s m below meth c A hx hb hml hr hts hown hlocks hin hA hP hD hS hE hsz ls hl
  have hown : s.vm.findClass RX3 = some m.cls := hown
  obtain ⟨H, hH0⟩ : ∃ H, H = s.heap := ⟨_, rfl⟩
  obtain ⟨locs, hlocs0⟩ : ∃ locs : List Loc, locs = [] := ⟨_, rfl⟩
  have hP : va_P D vwCl (WKK q cy u ++ rest) H := by rw [hH0]; exact hP
  have hS : va_S A s.heap H locs := by rw [hH0, hlocs0]; exact hS
  have hl : lv_has ls 2 [(0, .ref (q 0)), (1, .ref (q 7))] := hl
  suffices hgoal : W p l e rmX3_become s m ([.ref (q 0), .ref (q 7)] : List Value).toArray below meth c H locs 0 0 (MQ below (kQv D A (WKK q cy res ++ rest)) ([.ref (q 0), .ref (q 7)] : List Value).toArray s 0 0 A) (F0 m 0 ls []) by rw [hH0, hlocs0] at hgoal; exact hgoal
  clear hH0 hlocs0
  unfold mX3_become at hf
  refine lv_aload_n hx hb dX3_become_0 rfl (lv_at hl 1 rfl) ?_
  refine va_get (ci := 3) (v := .ref (q 8)) (C := RX3) (T := TX3) (N := 9) hx hb hts inlX3 hown hE.1 hP 7 rfl rfl 0 (by decide) (hts _ wB41) (fun _ h9 => h9) rfl dX3_become_1 ?_
  refine lv_aload_n hx hb dX3_become_4 rfl (lv_at hl 0 rfl) ?_
  refine va_get (ci := 3) (v := .ref (q 1)) (C := RX3) (T := TX3) (N := 9) hx hb hts inlX3 hown hE.1 hP 0 rfl rfl 0 (by decide) (hts _ wB41) (fun _ h9 => h9) rfl dX3_become_5 ?_
  obtain ⟨r8, h8r, hf⟩ := o_bs hf
  refine k_gov (va_runSN (As := [.ref (q 8), .ref (q 1)]) (rest := []) ⟨hx, hb, hml, hown, hts⟩ (cX5_copy l D cy sa (WKK q cy u ++ rest) H.size 8 (q 8) 120 (gR u 11) 1 (q 1) 120 (gR u 1)  r8 rfl rfl (by decide) h8r) ⟨va_cnB 2 hts (gB_K wB852) rfl rfl rfl (hE.2.1.1 _ (List.mem_of_getElem? (i := 12) rfl)) (hts _ wB2) (by decide +kernel) ⟨Nat.le_of_ble_eq_true rfl, Nat.le_of_ble_eq_true rfl⟩, hts _ wB851, trivial⟩ ⟨kP.blind, k_pre hP hD hS hE hA⟩ rfl rfl hl.1 rfl (lv_room (Nat.le_of_ble_eq_true rfl)) dX3_become_8 ⟨Nat.zero_le _, Nat.zero_le _⟩) hD hS hA (fun H locs hP hD hS => ?_)
  have hP : va_P D vwCl (WKK q cy (sR u 1 r8) ++ rest) H := hP
  have hD : va_D A (WKK q cy (sR u 1 r8) ++ rest) := hD
  refine lv_aload_n hx hb dX3_become_11 rfl (lv_at hl 0 rfl) ?_
  refine lv_aload_n hx hb dX3_become_12 rfl (lv_at hl 1 rfl) ?_
  refine va_get (ci := 3) (v := .int (gI u 12)) (C := RX3) (T := TX3) (N := 9) hx hb hts inlX3 hown hE.1 hP 7 rfl rfl 1 (by decide) (hts _ wB849) (fun _ h9 => h9) rfl dX3_become_13 ?_
  refine va_put (ci := 3) (v := .int (gI u 12)) (ty := .int) (C := RX3) (T := TX3) (N := 9) hx hb hts inlX3 tyX3 tyX3_ok nmX3 hown hE.1 hP hD hS 0 rfl rfl 1 (by decide) (hts _ wB849) (fun _ h9 => h9) rfl (by decide +kernel) rfl rfl (Nat.le_of_ble_eq_true rfl) dX3_become_16 (fun H locs hP hD hS => ?_)
  have hP : va_P D vwCl (WKK q cy (sR (sI u 2 (gI u 12)) 1 r8) ++ rest) H := hP
  have hD : va_D A (WKK q cy (sR (sI u 2 (gI u 12)) 1 r8) ++ rest) := hD
  refine lv_aload_n hx hb dX3_become_19 rfl (lv_at hl 1 rfl) ?_
  refine va_get (ci := 3) (v := .ref (q 9)) (C := RX3) (T := TX3) (N := 9) hx hb hts inlX3 hown hE.1 hP 7 rfl rfl 2 (by decide) (hts _ wB42) (fun _ h9 => h9) rfl dX3_become_20 ?_
  refine lv_aload_n hx hb dX3_become_23 rfl (lv_at hl 0 rfl) ?_
  refine va_get (ci := 3) (v := .ref (q 2)) (C := RX3) (T := TX3) (N := 9) hx hb hts inlX3 hown hE.1 hP 0 rfl rfl 2 (by decide) (hts _ wB42) (fun _ h9 => h9) rfl dX3_become_24 ?_
  obtain ⟨r27, h27r, hf⟩ := o_bs hf
  refine k_gov (va_runSN (As := [.ref (q 9), .ref (q 2)]) (rest := []) ⟨hx, hb, hml, hown, hts⟩ (cX5_copy l D cy sa (WKK q cy (sR (sI u 2 (gI u 12)) 1 r8) ++ rest) H.size 9 (q 9) 4 (gR u 12) 2 (q 2) 4 (gR u 2)  r27 rfl rfl (by decide) h27r) ⟨va_cnB 2 hts (gB_K wB852) rfl rfl rfl (hE.2.1.1 _ (List.mem_of_getElem? (i := 12) rfl)) (hts _ wB2) (by decide +kernel) ⟨Nat.le_of_ble_eq_true rfl, Nat.le_of_ble_eq_true rfl⟩, hts _ wB851, trivial⟩ ⟨kP.blind, k_pre hP hD hS hE hA⟩ rfl rfl hl.1 rfl (lv_room (Nat.le_of_ble_eq_true rfl)) dX3_become_27 ⟨Nat.zero_le _, Nat.zero_le _⟩) hD hS hA (fun H locs hP hD hS => ?_)
  have hP : va_P D vwCl (WKK q cy (sR (sR (sI u 2 (gI u 12)) 1 r8) 2 r27) ++ rest) H := hP
  have hD : va_D A (WKK q cy (sR (sR (sI u 2 (gI u 12)) 1 r8) 2 r27) ++ rest) := hD
  refine lv_aload_n hx hb dX3_become_30 rfl (lv_at hl 1 rfl) ?_
  refine va_get (ci := 3) (v := .ref (q 10)) (C := RX3) (T := TX3) (N := 9) hx hb hts inlX3 hown hE.1 hP 7 rfl rfl 3 (by decide) (hts _ wB43) (fun _ h9 => h9) rfl dX3_become_31 ?_
  refine lv_aload_n hx hb dX3_become_34 rfl (lv_at hl 0 rfl) ?_
  refine va_get (ci := 3) (v := .ref (q 3)) (C := RX3) (T := TX3) (N := 9) hx hb hts inlX3 hown hE.1 hP 0 rfl rfl 3 (by decide) (hts _ wB43) (fun _ h9 => h9) rfl dX3_become_35 ?_
  obtain ⟨r38, h38r, hf⟩ := o_bs hf
  refine k_gov (va_runSN (As := [.ref (q 10), .ref (q 3)]) (rest := []) ⟨hx, hb, hml, hown, hts⟩ (cX5_copy l D cy sa (WKK q cy (sR (sR (sI u 2 (gI u 12)) 1 r8) 2 r27) ++ rest) H.size 10 (q 10) 7 (gR u 13) 3 (q 3) 7 (gR u 3)  r38 rfl rfl (by decide) h38r) ⟨va_cnB 2 hts (gB_K wB852) rfl rfl rfl (hE.2.1.1 _ (List.mem_of_getElem? (i := 12) rfl)) (hts _ wB2) (by decide +kernel) ⟨Nat.le_of_ble_eq_true rfl, Nat.le_of_ble_eq_true rfl⟩, hts _ wB851, trivial⟩ ⟨kP.blind, k_pre hP hD hS hE hA⟩ rfl rfl hl.1 rfl (lv_room (Nat.le_of_ble_eq_true rfl)) dX3_become_38 ⟨Nat.zero_le _, Nat.zero_le _⟩) hD hS hA (fun H locs hP hD hS => ?_)
  have hP : va_P D vwCl (WKK q cy (sR (sR (sR (sI u 2 (gI u 12)) 1 r8) 2 r27) 3 r38) ++ rest) H := hP
  have hD : va_D A (WKK q cy (sR (sR (sR (sI u 2 (gI u 12)) 1 r8) 2 r27) 3 r38) ++ rest) := hD
  refine lv_aload_n hx hb dX3_become_41 rfl (lv_at hl 1 rfl) ?_
  refine va_get (ci := 3) (v := .ref (q 11)) (C := RX3) (T := TX3) (N := 9) hx hb hts inlX3 hown hE.1 hP 7 rfl rfl 4 (by decide) (hts _ wB44) (fun _ h9 => h9) rfl dX3_become_42 ?_
  refine lv_aload_n hx hb dX3_become_45 rfl (lv_at hl 0 rfl) ?_
  refine va_get (ci := 3) (v := .ref (q 4)) (C := RX3) (T := TX3) (N := 9) hx hb hts inlX3 hown hE.1 hP 0 rfl rfl 4 (by decide) (hts _ wB44) (fun _ h9 => h9) rfl dX3_become_46 ?_
  obtain ⟨r49, h49r, hf⟩ := o_bs hf
  refine k_gov (va_runSN (As := [.ref (q 11), .ref (q 4)]) (rest := []) ⟨hx, hb, hml, hown, hts⟩ (cX5_copy l D cy sa (WKK q cy (sR (sR (sR (sI u 2 (gI u 12)) 1 r8) 2 r27) 3 r38) ++ rest) H.size 11 (q 11) 4 (gR u 14) 4 (q 4) 4 (gR u 4)  r49 rfl rfl (by decide) h49r) ⟨va_cnB 2 hts (gB_K wB852) rfl rfl rfl (hE.2.1.1 _ (List.mem_of_getElem? (i := 12) rfl)) (hts _ wB2) (by decide +kernel) ⟨Nat.le_of_ble_eq_true rfl, Nat.le_of_ble_eq_true rfl⟩, hts _ wB851, trivial⟩ ⟨kP.blind, k_pre hP hD hS hE hA⟩ rfl rfl hl.1 rfl (lv_room (Nat.le_of_ble_eq_true rfl)) dX3_become_49 ⟨Nat.zero_le _, Nat.zero_le _⟩) hD hS hA (fun H locs hP hD hS => ?_)
  have hP : va_P D vwCl (WKK q cy (sR (sR (sR (sR (sI u 2 (gI u 12)) 1 r8) 2 r27) 3 r38) 4 r49) ++ rest) H := hP
  have hD : va_D A (WKK q cy (sR (sR (sR (sR (sI u 2 (gI u 12)) 1 r8) 2 r27) 3 r38) 4 r49) ++ rest) := hD
  refine lv_aload_n hx hb dX3_become_52 rfl (lv_at hl 1 rfl) ?_
  refine va_get (ci := 3) (v := .ref (q 12)) (C := RX3) (T := TX3) (N := 9) hx hb hts inlX3 hown hE.1 hP 7 rfl rfl 5 (by decide) (hts _ wB45) (fun _ h9 => h9) rfl dX3_become_53 ?_
  refine lv_aload_n hx hb dX3_become_56 rfl (lv_at hl 0 rfl) ?_
  refine va_get (ci := 3) (v := .ref (q 5)) (C := RX3) (T := TX3) (N := 9) hx hb hts inlX3 hown hE.1 hP 0 rfl rfl 5 (by decide) (hts _ wB45) (fun _ h9 => h9) rfl dX3_become_57 ?_
  obtain ⟨r60, h60r, hf⟩ := o_bs hf
  refine k_gov (va_runSN (As := [.ref (q 12), .ref (q 5)]) (rest := []) ⟨hx, hb, hml, hown, hts⟩ (cX5_copy l D cy sa (WKK q cy (sR (sR (sR (sR (sI u 2 (gI u 12)) 1 r8) 2 r27) 3 r38) 4 r49) ++ rest) H.size 12 (q 12) 32 (gR u 15) 5 (q 5) 32 (gR u 5)  r60 rfl rfl (by decide) h60r) ⟨va_cnB 2 hts (gB_K wB852) rfl rfl rfl (hE.2.1.1 _ (List.mem_of_getElem? (i := 12) rfl)) (hts _ wB2) (by decide +kernel) ⟨Nat.le_of_ble_eq_true rfl, Nat.le_of_ble_eq_true rfl⟩, hts _ wB851, trivial⟩ ⟨kP.blind, k_pre hP hD hS hE hA⟩ rfl rfl hl.1 rfl (lv_room (Nat.le_of_ble_eq_true rfl)) dX3_become_60 ⟨Nat.zero_le _, Nat.zero_le _⟩) hD hS hA (fun H locs hP hD hS => ?_)
  have hP : va_P D vwCl (WKK q cy (sR (sR (sR (sR (sR (sI u 2 (gI u 12)) 1 r8) 2 r27) 3 r38) 4 r49) 5 r60) ++ rest) H := hP
  have hD : va_D A (WKK q cy (sR (sR (sR (sR (sR (sI u 2 (gI u 12)) 1 r8) 2 r27) 3 r38) 4 r49) 5 r60) ++ rest) := hD
  refine lv_aload_n hx hb dX3_become_63 rfl (lv_at hl 0 rfl) ?_
  refine lv_aload_n hx hb dX3_become_64 rfl (lv_at hl 1 rfl) ?_
  refine va_get (ci := 3) (v := .int (gI u 13)) (C := RX3) (T := TX3) (N := 9) hx hb hts inlX3 hown hE.1 hP 7 rfl rfl 6 (by decide) (hts _ wB850) (fun _ h9 => h9) rfl dX3_become_65 ?_
  refine va_put (ci := 3) (v := .int (gI u 13)) (ty := .int) (C := RX3) (T := TX3) (N := 9) hx hb hts inlX3 tyX3 tyX3_ok nmX3 hown hE.1 hP hD hS 0 rfl rfl 6 (by decide) (hts _ wB850) (fun _ h9 => h9) rfl (by decide +kernel) rfl rfl (Nat.le_of_ble_eq_true rfl) dX3_become_68 (fun H locs hP hD hS => ?_)
  have hP : va_P D vwCl (WKK q cy (sR (sR (sR (sR (sR (sI (sI u 2 (gI u 12)) 3 (gI u 13)) 1 r8) 2 r27) 3 r38) 4 r49) 5 r60) ++ rest) H := hP
  have hD : va_D A (WKK q cy (sR (sR (sR (sR (sR (sI (sI u 2 (gI u 12)) 3 (gI u 13)) 1 r8) 2 r27) 3 r38) 4 r49) 5 r60) ++ rest) := hD
  refine lv_aload_n hx hb dX3_become_71 rfl (lv_at hl 1 rfl) ?_
  refine va_get (ci := 3) (v := .ref (q 13)) (C := RX3) (T := TX3) (N := 9) hx hb hts inlX3 hown hE.1 hP 7 rfl rfl 7 (by decide) (hts _ wB46) (fun _ h9 => h9) rfl dX3_become_72 ?_
  refine lv_aload_n hx hb dX3_become_75 rfl (lv_at hl 0 rfl) ?_
  refine va_get (ci := 3) (v := .ref (q 6)) (C := RX3) (T := TX3) (N := 9) hx hb hts inlX3 hown hE.1 hP 0 rfl rfl 7 (by decide) (hts _ wB46) (fun _ h9 => h9) rfl dX3_become_76 ?_
  obtain ⟨r79, h79r, hf⟩ := o_bs hf
  refine k_gov (va_runSN (As := [.ref (q 13), .ref (q 6)]) (rest := []) ⟨hx, hb, hml, hown, hts⟩ (cX5_copy l D cy sa (WKK q cy (sR (sR (sR (sR (sR (sI (sI u 2 (gI u 12)) 3 (gI u 13)) 1 r8) 2 r27) 3 r38) 4 r49) 5 r60) ++ rest) H.size 13 (q 13) 18 (gR u 16) 6 (q 6) 18 (gR u 6)  r79 rfl rfl (by decide) h79r) ⟨va_cnB 2 hts (gB_K wB852) rfl rfl rfl (hE.2.1.1 _ (List.mem_of_getElem? (i := 12) rfl)) (hts _ wB2) (by decide +kernel) ⟨Nat.le_of_ble_eq_true rfl, Nat.le_of_ble_eq_true rfl⟩, hts _ wB851, trivial⟩ ⟨kP.blind, k_pre hP hD hS hE hA⟩ rfl rfl hl.1 rfl (lv_room (Nat.le_of_ble_eq_true rfl)) dX3_become_79 ⟨Nat.zero_le _, Nat.zero_le _⟩) hD hS hA (fun H locs hP hD hS => ?_)
  have hP : va_P D vwCl (WKK q cy (sR (sR (sR (sR (sR (sR (sI (sI u 2 (gI u 12)) 3 (gI u 13)) 1 r8) 2 r27) 3 r38) 4 r49) 5 r60) 6 r79) ++ rest) H := hP
  have hD : va_D A (WKK q cy (sR (sR (sR (sR (sR (sR (sI (sI u 2 (gI u 12)) 3 (gI u 13)) 1 r8) 2 r27) 3 r38) 4 r49) 5 r60) 6 r79) ++ rest) := hD
  refine lv_aload_n hx hb dX3_become_82 rfl (lv_at hl 0 rfl) ?_
  refine lv_aload_n hx hb dX3_become_83 rfl (lv_at hl 1 rfl) ?_
  refine va_get (ci := 3) (v := .int (gI u 14)) (C := RX3) (T := TX3) (N := 9) hx hb hts inlX3 hown hE.1 hP 7 rfl rfl 8 (by decide) (hts _ wB799) (fun _ h9 => h9) rfl dX3_become_84 ?_
  refine va_put (ci := 3) (v := .int (gI u 14)) (ty := .int) (C := RX3) (T := TX3) (N := 9) hx hb hts inlX3 tyX3 tyX3_ok nmX3 hown hE.1 hP hD hS 0 rfl rfl 8 (by decide) (hts _ wB799) (fun _ h9 => h9) rfl (by decide +kernel) rfl rfl (Nat.le_of_ble_eq_true rfl) dX3_become_87 (fun H locs hP hD hS => ?_)
  have hP : va_P D vwCl (WKK q cy (sR (sR (sR (sR (sR (sR (sI (sI (sI u 2 (gI u 12)) 3 (gI u 13)) 4 (gI u 14)) 1 r8) 2 r27) 3 r38) 4 r49) 5 r60) 6 r79) ++ rest) H := hP
  have hD : va_D A (WKK q cy (sR (sR (sR (sR (sR (sR (sI (sI (sI u 2 (gI u 12)) 3 (gI u 13)) 4 (gI u 14)) 1 r8) 2 r27) 3 r38) 4 r49) 5 r60) 6 r79) ++ rest) := hD
  obtain rfl := o_ret hf
  exact k_vret hx hb hr hP hD hS (Nat.zero_le _) (Nat.zero_le _) hlocks dX3_become_90
