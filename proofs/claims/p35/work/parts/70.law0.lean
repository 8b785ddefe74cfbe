/-! the law's own methods: mirrors and contracts -/
noncomputable def mL_cell (sa : Nat → Nat) (a1 : Int32) : Option (Int32) :=
  if (Int32.ofNat (sa 11)) ≤ a1 then
  (some (((15485957 * a1) + 107) &&& 2147483647))
  else
  (gd (inb a1 (sa 11)) (some ((scr sa (a1.toNatClampNeg)) &&& 2147483647)))
abbrev rmL_cell : Room := { frames := 0, cells := 0, slots := 0, locals := 0 }
set_option maxRecDepth 100000 in
set_option maxHeartbeats 4000000 in
theorem zL_cell (l : Launch) (D : va_G) (cy : Nat → ClassId) (sa : Nat → Nat) (ws : va_W) (sz : Nat) (a1 : Int32) (res : Int32) (hf : mL_cell sa a1 = some res) : kMi l yL_cell (wsK yL_cell cL_cell 2 (some .int)) rmL_cell D cy sa (ws) sz [.ref (sa 10), .int a1] res (ws) 0 0 := by
  refine kM_of (Qc := fun A => kQi D A res (ws)) (cc := cL_cell) (maxL := 2) (ret := (some .int)) (by decide) (Nat.le_of_ble_eq_true rfl) ?_
  intro p e s m below meth c A hx hb hml hr hts hown hlocks hin hA hP hD hS hE hsz ls hl
  have hown : s.vm.findClass RL = some m.cls := hown
  obtain ⟨H, hH0⟩ : ∃ H, H = s.heap := ⟨_, rfl⟩
  obtain ⟨locs, hlocs0⟩ : ∃ locs : List Loc, locs = [] := ⟨_, rfl⟩
  have hP : va_P D vwCl (ws) H := by rw [hH0]; exact hP
  have hS : va_S A s.heap H locs := by rw [hH0, hlocs0]; exact hS
  have hl : lv_has ls 2 [(0, .ref (sa 10)), (1, .int a1)] := hl
  suffices hgoal : W p l e rmL_cell s m ([.ref (sa 10), .int a1] : List Value).toArray below meth c H locs 0 0 (MQ below (kQi D A res (ws)) ([.ref (sa 10), .int a1] : List Value).toArray s 0 0 A) (F0 m 0 ls []) by rw [hH0, hlocs0] at hgoal; exact hgoal
  clear hH0 hlocs0
  unfold mL_cell at hf
  refine lv_iload_n hx hb dL_cell_0 rfl (lv_at hl 1 rfl) ?_
  refine lv_aload_n hx hb dL_cell_1 rfl (lv_at hl 0 rfl) ?_
  refine va_tlen (v := Int32.ofNat (sa 11)) hx hb hE.2.2.2.2.2.2.2.2.2 hS rfl dL_cell_2 ?_
  refine lv_icmp_ge (tgt := 12) hx hb dL_cell_3 (by decide) (fun c3 => ?_) (fun c3 => ?_)
  · have hf := o_ip c3 hf
    refine lv_ldc (v := 15485957) hx hb hown (hts _ wB94) dL_cell_12 ?_
    refine lv_iload_n hx hb dL_cell_14 rfl (lv_at hl 1 rfl) ?_
    refine lv_imul hx hb dL_cell_15 ?_
    refine lv_bipush (v := 107) hx hb dL_cell_16 (by decide) ?_
    refine lv_iadd hx hb dL_cell_18 ?_
    refine lv_ldc (v := 2147483647) hx hb hown (hts _ wB95) dL_cell_19 ?_
    refine lv_iand hx hb dL_cell_21 ?_
    obtain rfl := o_ret hf
    exact k_iret hx hb hr hP hD hS (Nat.zero_le _) (Nat.zero_le _) hlocks dL_cell_22
  · have hf := o_in c3 hf
    refine lv_aload_n hx hb dL_cell_6 rfl (lv_at hl 0 rfl) ?_
    refine lv_iload_n hx hb dL_cell_7 rfl (lv_at hl 1 rfl) ?_
    obtain ⟨hg8, hf⟩ := gd_s hf
    refine va_ti (v := .int (scr sa (a1.toNatClampNeg))) hx hb hE.2.2.2.2.2.2.2.2.2 hS hg8 rfl dL_cell_8 ?_
    refine lv_goto (tgt := 19) hx hb dL_cell_9 (by decide) ?_
    refine lv_ldc (v := 2147483647) hx hb hown (hts _ wB95) dL_cell_19 ?_
    refine lv_iand hx hb dL_cell_21 ?_
    obtain rfl := o_ret hf
    exact k_iret hx hb hr hP hD hS (Nat.zero_le _) (Nat.zero_le _) hlocks dL_cell_22
noncomputable def mL_power_s12_j41  (j41_4 : Int64) (j41_8 : Int64) (j41_10 : Int64) (j41_t0 : Int64) : Option ((Int64) ⊕ (Int64 × Int64 × Int64)) :=
  gd (¬ j41_4 = (0 : Int64)) (some (.inr (j41_t0, ((j41_8 * j41_8) - (j41_8 * j41_8) / j41_4 * j41_4), (j41_10 >>> ((1 : Int32).toInt64 &&& 63)))))
noncomputable def mL_power_s12 (c4 : Int64) (s12 : Int64 × Int64 × Int64) : Option ((Int64) ⊕ (Int64 × Int64 × Int64)) :=
  if (lg_cmp s12.2.2 0) ≤ 0 then
  (some (.inl s12.1))
  else
  (if (lg_cmp (s12.2.2 &&& 1) 1) = 0 then
  (gd (¬ c4 = (0 : Int64)) (mL_power_s12_j41 c4 s12.2.1 s12.2.2 ((s12.1 * s12.2.1) - (s12.1 * s12.2.1) / c4 * c4)))
  else
  (mL_power_s12_j41 c4 s12.2.1 s12.2.2 s12.1))
noncomputable def mL_power (a0 : Int64) (a2 : Int64) (a4 : Int64) : Option (Int64) :=
  gd (¬ a4 = (0 : Int64)) ((lpF (mL_power_s12 a4) (1, (a0 - a0 / a4 * a4), a2)).bind fun e12 =>
  some e12)
abbrev rmL_power : Room := { frames := 0, cells := 0, slots := 0, locals := 0 }
set_option maxRecDepth 100000 in
set_option maxHeartbeats 4000000 in
theorem zL_power (l : Launch) (D : va_G) (cy : Nat → ClassId) (sa : Nat → Nat) (ws : va_W) (sz : Nat) (a0 : Int64) (a2 : Int64) (a4 : Int64) (res : Int64) (hf : mL_power a0 a2 a4 = some res) : kMl l yL_power (wsK yL_power cL_power 12 (some .long)) rmL_power D cy sa (ws) sz [.long a0, .long a2, .long a4] res (ws) 0 0 := by
  refine kM_of (Qc := fun A => kQl D A res (ws)) (cc := cL_power) (maxL := 12) (ret := (some .long)) (by decide) (Nat.le_of_ble_eq_true rfl) ?_
  intro p e s m below meth c A hx hb hml hr hts hown hlocks hin hA hP hD hS hE hsz ls hl
  have hown : s.vm.findClass RL = some m.cls := hown
  obtain ⟨H, hH0⟩ : ∃ H, H = s.heap := ⟨_, rfl⟩
  obtain ⟨locs, hlocs0⟩ : ∃ locs : List Loc, locs = [] := ⟨_, rfl⟩
  have hP : va_P D vwCl (ws) H := by rw [hH0]; exact hP
  have hS : va_S A s.heap H locs := by rw [hH0, hlocs0]; exact hS
  have hl : lv_has ls 12 [(0, .long a0), (2, .long a2), (4, .long a4)] := hl
  suffices hgoal : W p l e rmL_power s m ([.long a0, .long a2, .long a4] : List Value).toArray below meth c H locs 0 0 (MQ below (kQl D A res (ws)) ([.long a0, .long a2, .long a4] : List Value).toArray s 0 0 A) (F0 m 0 ls []) by rw [hH0, hlocs0] at hgoal; exact hgoal
  clear hH0 hlocs0
  unfold mL_power at hf
  refine lv_lconst (v := 1) hx hb dL_power_0 (by decide) ?_
  refine lv_lstore (lv' := [(6, .long 1), (0, .long a0), (2, .long a2), (4, .long a4)]) hx hb dL_power_1 hl (by decide) rfl (fun ls hl => ?_)
  refine lv_lload_n hx hb dL_power_3 rfl (lv_at hl 1 rfl) ?_
  refine lv_lload hx hb dL_power_4 (lv_at hl 3 rfl) ?_
  obtain ⟨hg6, hf⟩ := gd_s hf
  refine lv_lrem hx hb dL_power_6 hg6 ?_
  refine lv_lstore (lv' := [(8, .long (a0 - a0 / a4 * a4)), (6, .long 1), (0, .long a0), (2, .long a2), (4, .long a4)]) hx hb dL_power_7 hl (by decide) rfl (fun ls hl => ?_)
  refine lv_lload_n hx hb dL_power_9 rfl (lv_at hl 3 rfl) ?_
  refine lv_lstore (lv' := [(10, .long a2), (8, .long (a0 - a0 / a4 * a4)), (6, .long 1), (0, .long a0), (2, .long a2), (4, .long a4)]) hx hb dL_power_10 hl (by decide) rfl (fun ls hl => ?_)
  have L12 : ∀ (n12v : Nat) (s12 : Int64 × Int64 × Int64) (e12 : Int64), lpO (mL_power_s12 a4) n12v s12 = some e12 → ∀ (H : Heap) (locs : List Loc) (ls : Array Slot), va_P D vwCl (ws) H → va_D A (ws) → va_S A s.heap H locs → lv_has ls 12 [(4, .long a4), (6, .long s12.1), (8, .long s12.2.1), (10, .long s12.2.2)] → (∀ (H : Heap) (locs : List Loc) (ls : Array Slot), va_P D vwCl (ws) H → va_D A (ws) → va_S A s.heap H locs → lv_has ls 12 [(6, .long e12)] → W p l e rmL_power s m ([.long a0, .long a2, .long a4] : List Value).toArray below meth c H locs 0 0 (MQ below (kQl D A res (ws)) ([.long a0, .long a2, .long a4] : List Value).toArray s 0 0 A) (F0 m 62 ls [])) → W p l e rmL_power s m ([.long a0, .long a2, .long a4] : List Value).toArray below meth c H locs 0 0 (MQ below (kQl D A res (ws)) ([.long a0, .long a2, .long a4] : List Value).toArray s 0 0 A) (F0 m 12 ls []) := by
    intro n12v
    induction n12v with
    | zero => intro s12 e12 h; exact (lpO_z h).elim
    | succ n12v ih12 =>
      intro s12 e12 h12z H locs ls hP hD hS hl K12_0
      obtain ⟨x12, hf, h12z⟩ := lpO_s h12z
      unfold mL_power_s12 at hf
      have J41 : ∀  (j41_8 : Int64) (j41_10 : Int64) (j41_t0 : Int64), mL_power_s12_j41  a4 j41_8 j41_10 j41_t0 = some x12 → ∀ (H : Heap) (locs : List Loc) (ls : Array Slot), va_P D vwCl (ws) H → va_D A (ws) → va_S A s.heap H locs → lv_has ls 12 [(4, .long a4), (8, .long j41_8), (10, .long j41_10)] → W p l e rmL_power s m ([.long a0, .long a2, .long a4] : List Value).toArray below meth c H locs 0 0 (MQ below (kQl D A res (ws)) ([.long a0, .long a2, .long a4] : List Value).toArray s 0 0 A) (F0 m 41 ls [.long j41_t0]) := by
        intro  j41_8 j41_10 j41_t0 hf H locs ls hP hD hS hl
        unfold mL_power_s12_j41 at hf
        refine lv_lstore (lv' := [(6, .long j41_t0), (4, .long a4), (8, .long j41_8), (10, .long j41_10)]) hx hb dL_power_41 hl (by decide) rfl (fun ls hl => ?_)
        refine lv_lload hx hb dL_power_43 (lv_at hl 2 rfl) ?_
        refine lv_lload hx hb dL_power_45 (lv_at hl 2 rfl) ?_
        refine lv_lmul hx hb dL_power_47 ?_
        refine lv_lload hx hb dL_power_48 (lv_at hl 1 rfl) ?_
        obtain ⟨hg50, hf⟩ := gd_s hf
        refine lv_lrem hx hb dL_power_50 hg50 ?_
        refine lv_lstore (lv' := [(8, .long ((j41_8 * j41_8) - (j41_8 * j41_8) / a4 * a4)), (6, .long j41_t0), (4, .long a4), (10, .long j41_10)]) hx hb dL_power_51 hl (by decide) rfl (fun ls hl => ?_)
        refine lv_lload hx hb dL_power_53 (lv_at hl 3 rfl) ?_
        refine lv_iconst (v := 1) hx hb dL_power_55 (by decide) ?_
        refine lv_lshr (v := (j41_10 >>> ((1 : Int32).toInt64 &&& 63))) hx hb dL_power_56 rfl ?_
        refine lv_lstore (lv' := [(10, .long (j41_10 >>> ((1 : Int32).toInt64 &&& 63))), (8, .long ((j41_8 * j41_8) - (j41_8 * j41_8) / a4 * a4)), (6, .long j41_t0), (4, .long a4)]) hx hb dL_power_57 hl (by decide) rfl (fun ls hl => ?_)
        refine lv_goto (tgt := 12) hx hb dL_power_59 (by decide) ?_
        obtain rfl := o_ret hf
        exact ih12 _ _ (lpK_r h12z) _ _ _ hP hD hS (lv_sub hl [3, 2, 1, 0] rfl) K12_0
      refine lv_lload hx hb dL_power_12 (lv_at hl 3 rfl) ?_
      refine lv_lconst (v := 0) hx hb dL_power_14 (by decide) ?_
      refine W.lcmp hx hb dL_power_15 ?_
      refine lv_if_le (tgt := 62) hx hb dL_power_16 (by decide) (fun c16 => ?_) (fun c16 => ?_)
      · have hf := o_ip c16 hf
        obtain rfl := o_ret hf
        obtain rfl := lpK_l h12z
        exact K12_0 _ _ _ hP hD hS (lv_sub hl [1] rfl)
      · have hf := o_in c16 hf
        refine lv_lload hx hb dL_power_19 (lv_at hl 3 rfl) ?_
        refine lv_lconst (v := 1) hx hb dL_power_21 (by decide) ?_
        refine lv_land hx hb dL_power_22 ?_
        refine lv_lconst (v := 1) hx hb dL_power_23 (by decide) ?_
        refine W.lcmp hx hb dL_power_24 ?_
        refine lv_if_ne (tgt := 39) hx hb dL_power_25 (by decide) (fun c25 => ?_) (fun c25 => ?_)
        · have hf := o_in c25 hf
          refine lv_lload hx hb dL_power_39 (lv_at hl 1 rfl) ?_
          exact J41 _ _ _ hf _ _ _ hP hD hS (lv_sub hl [0, 2, 3] rfl)
        · have hf := o_ip c25 hf
          refine lv_lload hx hb dL_power_28 (lv_at hl 1 rfl) ?_
          refine lv_lload hx hb dL_power_30 (lv_at hl 2 rfl) ?_
          refine lv_lmul hx hb dL_power_32 ?_
          refine lv_lload hx hb dL_power_33 (lv_at hl 0 rfl) ?_
          obtain ⟨hg35, hf⟩ := gd_s hf
          refine lv_lrem hx hb dL_power_35 hg35 ?_
          refine lv_goto (tgt := 41) hx hb dL_power_36 (by decide) ?_
          exact J41 _ _ _ hf _ _ _ hP hD hS (lv_sub hl [0, 2, 3] rfl)
  obtain ⟨e12, h12q, hf⟩ := o_bs hf
  obtain ⟨n12v, h12q⟩ := lpF_ex h12q
  refine L12 n12v _ e12 h12q _ _ _ hP hD hS (lv_sub hl [5, 2, 1, 0] rfl) ?_
  intro H locs ls hP hD hS hl
  refine lv_lload hx hb dL_power_62 (lv_at hl 0 rfl) ?_
  obtain rfl := o_ret hf
  exact k_lret hx hb hr hP hD hS (Nat.zero_le _) (Nat.zero_le _) hlocks dL_power_64
noncomputable def mL_divisor_s6  (s6 : Int64 × Int64) : Option ((Int64) ⊕ (Int64 × Int64)) :=
  if (lg_cmp s6.2 0) = 0 then
  (some (.inl s6.1))
  else
  (gd (¬ s6.2 = (0 : Int64)) (some (.inr (s6.2, (s6.1 - s6.1 / s6.2 * s6.2)))))
noncomputable def mL_divisor (a0 : Int64) (a2 : Int64) : Option (Int64) :=
  (lpF mL_divisor_s6 (a0, a2)).bind fun e6 =>
  some e6
abbrev rmL_divisor : Room := { frames := 0, cells := 0, slots := 0, locals := 0 }
set_option maxRecDepth 100000 in
set_option maxHeartbeats 4000000 in
theorem zL_divisor (l : Launch) (D : va_G) (cy : Nat → ClassId) (sa : Nat → Nat) (ws : va_W) (sz : Nat) (a0 : Int64) (a2 : Int64) (res : Int64) (hf : mL_divisor a0 a2 = some res) : kMl l yL_divisor (wsK yL_divisor cL_divisor 10 (some .long)) rmL_divisor D cy sa (ws) sz [.long a0, .long a2] res (ws) 0 0 := by
  refine kM_of (Qc := fun A => kQl D A res (ws)) (cc := cL_divisor) (maxL := 10) (ret := (some .long)) (by decide) (Nat.le_of_ble_eq_true rfl) ?_
  intro p e s m below meth c A hx hb hml hr hts hown hlocks hin hA hP hD hS hE hsz ls hl
  have hown : s.vm.findClass RL = some m.cls := hown
  obtain ⟨H, hH0⟩ : ∃ H, H = s.heap := ⟨_, rfl⟩
  obtain ⟨locs, hlocs0⟩ : ∃ locs : List Loc, locs = [] := ⟨_, rfl⟩
  have hP : va_P D vwCl (ws) H := by rw [hH0]; exact hP
  have hS : va_S A s.heap H locs := by rw [hH0, hlocs0]; exact hS
  have hl : lv_has ls 10 [(0, .long a0), (2, .long a2)] := hl
  suffices hgoal : W p l e rmL_divisor s m ([.long a0, .long a2] : List Value).toArray below meth c H locs 0 0 (MQ below (kQl D A res (ws)) ([.long a0, .long a2] : List Value).toArray s 0 0 A) (F0 m 0 ls []) by rw [hH0, hlocs0] at hgoal; exact hgoal
  clear hH0 hlocs0
  unfold mL_divisor at hf
  refine lv_lload_n hx hb dL_divisor_0 rfl (lv_at hl 0 rfl) ?_
  refine lv_lstore (lv' := [(4, .long a0), (0, .long a0), (2, .long a2)]) hx hb dL_divisor_1 hl (by decide) rfl (fun ls hl => ?_)
  refine lv_lload_n hx hb dL_divisor_3 rfl (lv_at hl 2 rfl) ?_
  refine lv_lstore (lv' := [(6, .long a2), (4, .long a0), (0, .long a0), (2, .long a2)]) hx hb dL_divisor_4 hl (by decide) rfl (fun ls hl => ?_)
  have L6 : ∀ (n6v : Nat) (s6 : Int64 × Int64) (e6 : Int64), lpO mL_divisor_s6 n6v s6 = some e6 → ∀ (H : Heap) (locs : List Loc) (ls : Array Slot), va_P D vwCl (ws) H → va_D A (ws) → va_S A s.heap H locs → lv_has ls 10 [(4, .long s6.1), (6, .long s6.2)] → (∀ (H : Heap) (locs : List Loc) (ls : Array Slot), va_P D vwCl (ws) H → va_D A (ws) → va_S A s.heap H locs → lv_has ls 10 [(4, .long e6)] → W p l e rmL_divisor s m ([.long a0, .long a2] : List Value).toArray below meth c H locs 0 0 (MQ below (kQl D A res (ws)) ([.long a0, .long a2] : List Value).toArray s 0 0 A) (F0 m 31 ls [])) → W p l e rmL_divisor s m ([.long a0, .long a2] : List Value).toArray below meth c H locs 0 0 (MQ below (kQl D A res (ws)) ([.long a0, .long a2] : List Value).toArray s 0 0 A) (F0 m 6 ls []) := by
    intro n6v
    induction n6v with
    | zero => intro s6 e6 h; exact (lpO_z h).elim
    | succ n6v ih6 =>
      intro s6 e6 h6z H locs ls hP hD hS hl K6_0
      obtain ⟨x6, hf, h6z⟩ := lpO_s h6z
      unfold mL_divisor_s6 at hf
      refine lv_lload hx hb dL_divisor_6 (lv_at hl 1 rfl) ?_
      refine lv_lconst (v := 0) hx hb dL_divisor_8 (by decide) ?_
      refine W.lcmp hx hb dL_divisor_9 ?_
      refine lv_if_eq (tgt := 31) hx hb dL_divisor_10 (by decide) (fun c10 => ?_) (fun c10 => ?_)
      · have hf := o_ip c10 hf
        obtain rfl := o_ret hf
        obtain rfl := lpK_l h6z
        exact K6_0 _ _ _ hP hD hS (lv_sub hl [0] rfl)
      · have hf := o_in c10 hf
        refine lv_lload hx hb dL_divisor_13 (lv_at hl 0 rfl) ?_
        refine lv_lload hx hb dL_divisor_15 (lv_at hl 1 rfl) ?_
        obtain ⟨hg17, hf⟩ := gd_s hf
        refine lv_lrem hx hb dL_divisor_17 hg17 ?_
        refine lv_lstore (lv' := [(8, .long (s6.1 - s6.1 / s6.2 * s6.2)), (4, .long s6.1), (6, .long s6.2)]) hx hb dL_divisor_18 hl (by decide) rfl (fun ls hl => ?_)
        refine lv_lload hx hb dL_divisor_20 (lv_at hl 2 rfl) ?_
        refine lv_lstore (lv' := [(4, .long s6.2), (8, .long (s6.1 - s6.1 / s6.2 * s6.2)), (6, .long s6.2)]) hx hb dL_divisor_22 hl (by decide) rfl (fun ls hl => ?_)
        refine lv_lload hx hb dL_divisor_24 (lv_at hl 1 rfl) ?_
        refine lv_lstore (lv' := [(6, .long (s6.1 - s6.1 / s6.2 * s6.2)), (4, .long s6.2), (8, .long (s6.1 - s6.1 / s6.2 * s6.2))]) hx hb dL_divisor_26 hl (by decide) rfl (fun ls hl => ?_)
        refine lv_goto (tgt := 6) hx hb dL_divisor_28 (by decide) ?_
        obtain rfl := o_ret hf
        exact ih6 _ _ (lpK_r h6z) _ _ _ hP hD hS (lv_sub hl [1, 0] rfl) K6_0
  obtain ⟨e6, h6q, hf⟩ := o_bs hf
  obtain ⟨n6v, h6q⟩ := lpF_ex h6q
  refine L6 n6v _ e6 h6q _ _ _ hP hD hS (lv_sub hl [1, 0] rfl) ?_
  intro H locs ls hP hD hS hl
  refine lv_lload hx hb dL_divisor_31 (lv_at hl 0 rfl) ?_
  obtain rfl := o_ret hf
  exact k_lret hx hb hr hP hD hS (Nat.zero_le _) (Nat.zero_le _) hlocks dL_divisor_33
noncomputable def mL_over_s14 (c1 : Int32) (c2 : Int64) (s14 : Int64 × Int32 × KS) : Option (((Int64 × KS)) ⊕ (Int64 × Int32 × KS)) :=
  if s14.2.1 < 0 then
  (some (.inl (s14.1, s14.2.2)))
  else
  ((mX5_limb s14.2.2 c1 s14.2.1).bind fun r29 =>
  gd (¬ c2 = (0 : Int64)) (some (.inr ((((s14.1 * 1073741824) + (r29.1.toInt64)) - ((s14.1 * 1073741824) + (r29.1.toInt64)) / c2 * c2), (s14.2.1 + (-1)), r29.2))))
noncomputable def mL_over (u : KS) (a1 : Int32) (a2 : Int64) : Option (Int64 × KS) :=
  (mX5_sign u (1 + a1)).bind fun r7 =>
  (lpF (mL_over_s14 a1 a2) (0, (r7.1 - 1), r7.2)).bind fun e14 =>
  some (e14.1, e14.2)
abbrev rmL_over : Room := { frames := 4, cells := 0, slots := 0, locals := 86 }
set_option maxRecDepth 100000 in
set_option maxHeartbeats 4000000 in
theorem zL_over (l : Launch) (D : va_G) (cy : Nat → ClassId) (sa : Nat → Nat) (q : Nat → Nat) (rest : va_W) (sz : Nat) (u : KS) (a1 : Int32) (a2 : Int64) (res : Int64 × KS) (hf : mL_over u a1 a2 = some res) : kMl l yL_over (wsK yL_over cL_over 7 (some .long)) rmL_over D cy sa (WX q cy u ++ rest) sz [.ref (q 0), .int a1, .long a2] res.1 (WX q cy res.2 ++ rest) 0 0 := by
  refine kM_of (Qc := fun A => kQl D A res.1 (WX q cy res.2 ++ rest)) (cc := cL_over) (maxL := 7) (ret := (some .long)) (by decide) (Nat.le_of_ble_eq_true rfl) ?_
  intro p e s m below meth c A hx hb hml hr hts hown hlocks hin hA hP hD hS hE hsz ls hl
  have hown : s.vm.findClass RL = some m.cls := hown
  obtain ⟨H, hH0⟩ : ∃ H, H = s.heap := ⟨_, rfl⟩
  obtain ⟨locs, hlocs0⟩ : ∃ locs : List Loc, locs = [] := ⟨_, rfl⟩
  have hP : va_P D vwCl (WX q cy u ++ rest) H := by rw [hH0]; exact hP
  have hS : va_S A s.heap H locs := by rw [hH0, hlocs0]; exact hS
  have hl : lv_has ls 7 [(0, .ref (q 0)), (1, .int a1), (2, .long a2)] := hl
  suffices hgoal : W p l e rmL_over s m ([.ref (q 0), .int a1, .long a2] : List Value).toArray below meth c H locs 0 0 (MQ below (kQl D A res.1 (WX q cy res.2 ++ rest)) ([.ref (q 0), .int a1, .long a2] : List Value).toArray s 0 0 A) (F0 m 0 ls []) by rw [hH0, hlocs0] at hgoal; exact hgoal
  clear hH0 hlocs0
  unfold mL_over at hf
  refine lv_lconst (v := 0) hx hb dL_over_0 (by decide) ?_
  refine lv_lstore (lv' := [(4, .long 0), (0, .ref (q 0)), (1, .int a1), (2, .long a2)]) hx hb dL_over_1 hl (by decide) rfl (fun ls hl => ?_)
  refine lv_aload_n hx hb dL_over_3 rfl (lv_at hl 1 rfl) ?_
  refine lv_iconst (v := 1) hx hb dL_over_4 (by decide) ?_
  refine lv_iload_n hx hb dL_over_5 rfl (lv_at hl 2 rfl) ?_
  refine lv_iadd hx hb dL_over_6 ?_
  obtain ⟨r7, h7r, hf⟩ := o_bs hf
  refine k_goi (va_runV (As := [.int (1 + a1)]) (rest := []) ⟨hx, hb, hml, hown, hts⟩ (zX5_sign l D cy sa q rest H.size u (1 + a1) r7 h7r) (cwV 1 hts (gB_V wB445 wB446 wB447 wB2 wB448) rfl rfl rfl (by decide +kernel) ⟨Nat.le_of_ble_eq_true rfl, Nat.le_of_ble_eq_true rfl⟩) ⟨kP.blind, k_recv hE hP (ci := 5) (q0 := 0) rfl rfl, k_pre hP hD hS hE hA⟩ rfl rfl hl.1 rfl (lv_room (Nat.le_of_ble_eq_true rfl)) dL_over_7 ⟨Nat.zero_le _, Nat.zero_le _⟩) hD hS hA (fun H locs hP hD hS => ?_)
  refine lv_iconst (v := 1) hx hb dL_over_10 (by decide) ?_
  refine lv_isub hx hb dL_over_11 ?_
  refine lv_istore (lv' := [(6, .int (r7.1 - 1)), (4, .long 0), (0, .ref (q 0)), (1, .int a1), (2, .long a2)]) hx hb dL_over_12 hl (by decide) rfl (fun ls hl => ?_)
  have L14 : ∀ (n14v : Nat) (s14 : Int64 × Int32 × KS) (e14 : (Int64 × KS)), lpO (mL_over_s14 a1 a2) n14v s14 = some e14 → ∀ (H : Heap) (locs : List Loc) (ls : Array Slot), va_P D vwCl (WX q cy s14.2.2 ++ rest) H → va_D A (WX q cy s14.2.2 ++ rest) → va_S A s.heap H locs → lv_has ls 7 [(0, .ref (q 0)), (1, .int a1), (2, .long a2), (4, .long s14.1), (6, .int s14.2.1)] → (∀ (H : Heap) (locs : List Loc) (ls : Array Slot), va_P D vwCl (WX q cy e14.2 ++ rest) H → va_D A (WX q cy e14.2 ++ rest) → va_S A s.heap H locs → lv_has ls 7 [(4, .long e14.1)] → W p l e rmL_over s m ([.ref (q 0), .int a1, .long a2] : List Value).toArray below meth c H locs 0 0 (MQ below (kQl D A res.1 (WX q cy res.2 ++ rest)) ([.ref (q 0), .int a1, .long a2] : List Value).toArray s 0 0 A) (F0 m 44 ls [])) → W p l e rmL_over s m ([.ref (q 0), .int a1, .long a2] : List Value).toArray below meth c H locs 0 0 (MQ below (kQl D A res.1 (WX q cy res.2 ++ rest)) ([.ref (q 0), .int a1, .long a2] : List Value).toArray s 0 0 A) (F0 m 14 ls []) := by
    intro n14v
    induction n14v with
    | zero => intro s14 e14 h; exact (lpO_z h).elim
    | succ n14v ih14 =>
      intro s14 e14 h14z H locs ls hP hD hS hl K14_0
      obtain ⟨x14, hf, h14z⟩ := lpO_s h14z
      unfold mL_over_s14 at hf
      refine lv_iload hx hb dL_over_14 (lv_at hl 4 rfl) ?_
      refine lv_if_lt (tgt := 44) hx hb dL_over_16 (by decide) (fun c16 => ?_) (fun c16 => ?_)
      · have hf := o_ip c16 hf
        obtain rfl := o_ret hf
        obtain rfl := lpK_l h14z
        exact K14_0 _ _ _ hP hD hS (lv_sub hl [3] rfl)
      · have hf := o_in c16 hf
        refine lv_lload hx hb dL_over_19 (lv_at hl 3 rfl) ?_
        refine lv_ldc2 (v := 1073741824) hx hb hown (hts _ wB444) dL_over_21 ?_
        refine lv_lmul hx hb dL_over_24 ?_
        refine lv_aload_n hx hb dL_over_25 rfl (lv_at hl 0 rfl) ?_
        refine lv_iload_n hx hb dL_over_26 rfl (lv_at hl 1 rfl) ?_
        refine lv_iload hx hb dL_over_27 (lv_at hl 4 rfl) ?_
        obtain ⟨r29, h29r, hf⟩ := o_bs hf
        refine k_goi (va_runV (As := [.int a1, .int s14.2.1]) (rest := [.long (s14.1 * 1073741824)]) ⟨hx, hb, hml, hown, hts⟩ (zX5_limb l D cy sa q rest H.size s14.2.2 a1 s14.2.1 r29 h29r) (cwV 2 hts (gB_V wB458 wB459 wB460 wB2 wB461) rfl rfl rfl (by decide +kernel) ⟨Nat.le_of_ble_eq_true rfl, Nat.le_of_ble_eq_true rfl⟩) ⟨kP.blind, k_recv hE hP (ci := 5) (q0 := 0) rfl rfl, k_pre hP hD hS hE hA⟩ rfl rfl hl.1 rfl (lv_room (Nat.le_of_ble_eq_true rfl)) dL_over_29 ⟨Nat.zero_le _, Nat.zero_le _⟩) hD hS hA (fun H locs hP hD hS => ?_)
        refine lv_i2l (v := (r29.1.toInt64)) hx hb dL_over_32 rfl ?_
        refine lv_ladd hx hb dL_over_33 ?_
        refine lv_lload_n hx hb dL_over_34 rfl (lv_at hl 2 rfl) ?_
        obtain ⟨hg35, hf⟩ := gd_s hf
        refine lv_lrem hx hb dL_over_35 hg35 ?_
        refine lv_lstore (lv' := [(4, .long (((s14.1 * 1073741824) + (r29.1.toInt64)) - ((s14.1 * 1073741824) + (r29.1.toInt64)) / a2 * a2)), (0, .ref (q 0)), (1, .int a1), (2, .long a2), (6, .int s14.2.1)]) hx hb dL_over_36 hl (by decide) rfl (fun ls hl => ?_)
        refine lv_iinc (v := (s14.2.1 + (-1))) (lv' := [(6, .int (s14.2.1 + (-1))), (4, .long (((s14.1 * 1073741824) + (r29.1.toInt64)) - ((s14.1 * 1073741824) + (r29.1.toInt64)) / a2 * a2)), (0, .ref (q 0)), (1, .int a1), (2, .long a2)]) hx hb dL_over_38 hl (k := 4) rfl (by rfl) (by decide) rfl (fun ls hl => ?_)
        refine lv_goto (tgt := 14) hx hb dL_over_41 (by decide) ?_
        obtain rfl := o_ret hf
        obtain ⟨gw, hgw⟩ : ∃ gw : KS, gw = r29.2 := ⟨_, rfl⟩
        rw [← hgw] at hP hD h14z
        exact ih14 _ _ (lpK_r h14z) _ _ _ hP hD hS (lv_sub hl [2, 3, 4, 1, 0] rfl) K14_0
  obtain ⟨e14, h14q, hf⟩ := o_bs hf
  obtain ⟨n14v, h14q⟩ := lpF_ex h14q
  refine L14 n14v _ e14 h14q _ _ _ hP hD hS (lv_sub hl [2, 3, 4, 1, 0] rfl) ?_
  intro H locs ls hP hD hS hl
  refine lv_lload hx hb dL_over_44 (lv_at hl 0 rfl) ?_
  obtain rfl := o_ret hf
  exact k_lret hx hb hr hP hD hS (Nat.zero_le _) (Nat.zero_le _) hlocks dL_over_46
noncomputable def mL_value_s13 (c1 : Int32) (s13 : Int64 × Int32 × KS) : Option (((Int64 × KS)) ⊕ (Int64 × Int32 × KS)) :=
  if s13.2.1 < 0 then
  (some (.inl (s13.1, s13.2.2)))
  else
  ((mX5_limb s13.2.2 c1 s13.2.1).bind fun r26 =>
  some (.inr (((s13.1 <<< ((30 : Int32).toInt64 &&& 63)) + (r26.1.toInt64)), (s13.2.1 + (-1)), r26.2)))
noncomputable def mL_value (u : KS) (a1 : Int32) : Option (Int64 × KS) :=
  (mX5_sign u (1 + a1)).bind fun r6 =>
  (lpF (mL_value_s13 a1) (0, (r6.1 - 1), r6.2)).bind fun e13 =>
  some (e13.1, e13.2)
abbrev rmL_value : Room := { frames := 4, cells := 0, slots := 0, locals := 86 }
set_option maxRecDepth 100000 in
set_option maxHeartbeats 4000000 in
theorem zL_value (l : Launch) (D : va_G) (cy : Nat → ClassId) (sa : Nat → Nat) (q : Nat → Nat) (rest : va_W) (sz : Nat) (u : KS) (a1 : Int32) (res : Int64 × KS) (hf : mL_value u a1 = some res) : kMl l yL_value (wsK yL_value cL_value 5 (some .long)) rmL_value D cy sa (WX q cy u ++ rest) sz [.ref (q 0), .int a1] res.1 (WX q cy res.2 ++ rest) 0 0 := by
  refine kM_of (Qc := fun A => kQl D A res.1 (WX q cy res.2 ++ rest)) (cc := cL_value) (maxL := 5) (ret := (some .long)) (by decide) (Nat.le_of_ble_eq_true rfl) ?_
  intro p e s m below meth c A hx hb hml hr hts hown hlocks hin hA hP hD hS hE hsz ls hl
  have hown : s.vm.findClass RL = some m.cls := hown
  obtain ⟨H, hH0⟩ : ∃ H, H = s.heap := ⟨_, rfl⟩
  obtain ⟨locs, hlocs0⟩ : ∃ locs : List Loc, locs = [] := ⟨_, rfl⟩
  have hP : va_P D vwCl (WX q cy u ++ rest) H := by rw [hH0]; exact hP
  have hS : va_S A s.heap H locs := by rw [hH0, hlocs0]; exact hS
  have hl : lv_has ls 5 [(0, .ref (q 0)), (1, .int a1)] := hl
  suffices hgoal : W p l e rmL_value s m ([.ref (q 0), .int a1] : List Value).toArray below meth c H locs 0 0 (MQ below (kQl D A res.1 (WX q cy res.2 ++ rest)) ([.ref (q 0), .int a1] : List Value).toArray s 0 0 A) (F0 m 0 ls []) by rw [hH0, hlocs0] at hgoal; exact hgoal
  clear hH0 hlocs0
  unfold mL_value at hf
  refine lv_lconst (v := 0) hx hb dL_value_0 (by decide) ?_
  refine lv_lstore_n (lv' := [(2, .long 0), (0, .ref (q 0)), (1, .int a1)]) hx hb dL_value_1 rfl hl (by decide) rfl (fun ls hl => ?_)
  refine lv_aload_n hx hb dL_value_2 rfl (lv_at hl 1 rfl) ?_
  refine lv_iconst (v := 1) hx hb dL_value_3 (by decide) ?_
  refine lv_iload_n hx hb dL_value_4 rfl (lv_at hl 2 rfl) ?_
  refine lv_iadd hx hb dL_value_5 ?_
  obtain ⟨r6, h6r, hf⟩ := o_bs hf
  refine k_goi (va_runV (As := [.int (1 + a1)]) (rest := []) ⟨hx, hb, hml, hown, hts⟩ (zX5_sign l D cy sa q rest H.size u (1 + a1) r6 h6r) (cwV 1 hts (gB_V wB445 wB446 wB447 wB2 wB448) rfl rfl rfl (by decide +kernel) ⟨Nat.le_of_ble_eq_true rfl, Nat.le_of_ble_eq_true rfl⟩) ⟨kP.blind, k_recv hE hP (ci := 5) (q0 := 0) rfl rfl, k_pre hP hD hS hE hA⟩ rfl rfl hl.1 rfl (lv_room (Nat.le_of_ble_eq_true rfl)) dL_value_6 ⟨Nat.zero_le _, Nat.zero_le _⟩) hD hS hA (fun H locs hP hD hS => ?_)
  refine lv_iconst (v := 1) hx hb dL_value_9 (by decide) ?_
  refine lv_isub hx hb dL_value_10 ?_
  refine lv_istore (lv' := [(4, .int (r6.1 - 1)), (2, .long 0), (0, .ref (q 0)), (1, .int a1)]) hx hb dL_value_11 hl (by decide) rfl (fun ls hl => ?_)
  have L13 : ∀ (n13v : Nat) (s13 : Int64 × Int32 × KS) (e13 : (Int64 × KS)), lpO (mL_value_s13 a1) n13v s13 = some e13 → ∀ (H : Heap) (locs : List Loc) (ls : Array Slot), va_P D vwCl (WX q cy s13.2.2 ++ rest) H → va_D A (WX q cy s13.2.2 ++ rest) → va_S A s.heap H locs → lv_has ls 5 [(0, .ref (q 0)), (1, .int a1), (2, .long s13.1), (4, .int s13.2.1)] → (∀ (H : Heap) (locs : List Loc) (ls : Array Slot), va_P D vwCl (WX q cy e13.2 ++ rest) H → va_D A (WX q cy e13.2 ++ rest) → va_S A s.heap H locs → lv_has ls 5 [(2, .long e13.1)] → W p l e rmL_value s m ([.ref (q 0), .int a1] : List Value).toArray below meth c H locs 0 0 (MQ below (kQl D A res.1 (WX q cy res.2 ++ rest)) ([.ref (q 0), .int a1] : List Value).toArray s 0 0 A) (F0 m 38 ls [])) → W p l e rmL_value s m ([.ref (q 0), .int a1] : List Value).toArray below meth c H locs 0 0 (MQ below (kQl D A res.1 (WX q cy res.2 ++ rest)) ([.ref (q 0), .int a1] : List Value).toArray s 0 0 A) (F0 m 13 ls []) := by
    intro n13v
    induction n13v with
    | zero => intro s13 e13 h; exact (lpO_z h).elim
    | succ n13v ih13 =>
      intro s13 e13 h13z H locs ls hP hD hS hl K13_0
      obtain ⟨x13, hf, h13z⟩ := lpO_s h13z
      unfold mL_value_s13 at hf
      refine lv_iload hx hb dL_value_13 (lv_at hl 3 rfl) ?_
      refine lv_if_lt (tgt := 38) hx hb dL_value_15 (by decide) (fun c15 => ?_) (fun c15 => ?_)
      · have hf := o_ip c15 hf
        obtain rfl := o_ret hf
        obtain rfl := lpK_l h13z
        exact K13_0 _ _ _ hP hD hS (lv_sub hl [2] rfl)
      · have hf := o_in c15 hf
        refine lv_lload_n hx hb dL_value_18 rfl (lv_at hl 2 rfl) ?_
        refine lv_bipush (v := 30) hx hb dL_value_19 (by decide) ?_
        refine lv_lshl (v := (s13.1 <<< ((30 : Int32).toInt64 &&& 63))) hx hb dL_value_21 rfl ?_
        refine lv_aload_n hx hb dL_value_22 rfl (lv_at hl 0 rfl) ?_
        refine lv_iload_n hx hb dL_value_23 rfl (lv_at hl 1 rfl) ?_
        refine lv_iload hx hb dL_value_24 (lv_at hl 3 rfl) ?_
        obtain ⟨r26, h26r, hf⟩ := o_bs hf
        refine k_goi (va_runV (As := [.int a1, .int s13.2.1]) (rest := [.long (s13.1 <<< ((30 : Int32).toInt64 &&& 63))]) ⟨hx, hb, hml, hown, hts⟩ (zX5_limb l D cy sa q rest H.size s13.2.2 a1 s13.2.1 r26 h26r) (cwV 2 hts (gB_V wB458 wB459 wB460 wB2 wB461) rfl rfl rfl (by decide +kernel) ⟨Nat.le_of_ble_eq_true rfl, Nat.le_of_ble_eq_true rfl⟩) ⟨kP.blind, k_recv hE hP (ci := 5) (q0 := 0) rfl rfl, k_pre hP hD hS hE hA⟩ rfl rfl hl.1 rfl (lv_room (Nat.le_of_ble_eq_true rfl)) dL_value_26 ⟨Nat.zero_le _, Nat.zero_le _⟩) hD hS hA (fun H locs hP hD hS => ?_)
        refine lv_i2l (v := (r26.1.toInt64)) hx hb dL_value_29 rfl ?_
        refine lv_ladd hx hb dL_value_30 ?_
        refine lv_lstore_n (lv' := [(2, .long ((s13.1 <<< ((30 : Int32).toInt64 &&& 63)) + (r26.1.toInt64))), (0, .ref (q 0)), (1, .int a1), (4, .int s13.2.1)]) hx hb dL_value_31 rfl hl (by decide) rfl (fun ls hl => ?_)
        refine lv_iinc (v := (s13.2.1 + (-1))) (lv' := [(4, .int (s13.2.1 + (-1))), (2, .long ((s13.1 <<< ((30 : Int32).toInt64 &&& 63)) + (r26.1.toInt64))), (0, .ref (q 0)), (1, .int a1)]) hx hb dL_value_32 hl (k := 3) rfl (by rfl) (by decide) rfl (fun ls hl => ?_)
        refine lv_goto (tgt := 13) hx hb dL_value_35 (by decide) ?_
        obtain rfl := o_ret hf
        obtain ⟨gw, hgw⟩ : ∃ gw : KS, gw = r26.2 := ⟨_, rfl⟩
        rw [← hgw] at hP hD h13z
        exact ih13 _ _ (lpK_r h13z) _ _ _ hP hD hS (lv_sub hl [2, 3, 1, 0] rfl) K13_0
  obtain ⟨e13, h13q, hf⟩ := o_bs hf
  obtain ⟨n13v, h13q⟩ := lpF_ex h13q
  refine L13 n13v _ e13 h13q _ _ _ hP hD hS (lv_sub hl [2, 3, 1, 0] rfl) ?_
  intro H locs ls hP hD hS hl
  refine lv_lload_n hx hb dL_value_38 rfl (lv_at hl 0 rfl) ?_
  obtain rfl := o_ret hf
  exact k_lret hx hb hr hP hD hS (Nat.zero_le _) (Nat.zero_le _) hlocks dL_value_39
noncomputable def mL_is (u : KS) (a1 : Int64) (a3 : Int64) : Option (Int32 × KS) :=
  (mL_divisor a1 a3).bind fun r2 =>
  (mL_value u 0).bind fun r9 =>
  gd (¬ r2 = (0 : Int64)) (gd ((lg_cmp r9.1 (a1 / r2)) = 0) ((mL_value r9.2 1).bind fun r22 =>
  gd (¬ r2 = (0 : Int64)) (gd ((lg_cmp r22.1 (a3 / r2)) = 0) (some (1, r22.2)))))
abbrev rmL_is : Room := { frames := 5, cells := 0, slots := 0, locals := 110 }
set_option maxRecDepth 100000 in
set_option maxHeartbeats 4000000 in
theorem zL_is (l : Launch) (D : va_G) (cy : Nat → ClassId) (sa : Nat → Nat) (q : Nat → Nat) (rest : va_W) (sz : Nat) (u : KS) (a1 : Int64) (a3 : Int64) (res : Int32 × KS) (hf : mL_is u a1 a3 = some res) : kMi l yL_is (wsK yL_is cL_is 7 (some .boolean)) rmL_is D cy sa (WX q cy u ++ rest) sz [.ref (q 0), .long a1, .long a3] res.1 (WX q cy res.2 ++ rest) 0 0 := by
  refine kM_of (Qc := fun A => kQi D A res.1 (WX q cy res.2 ++ rest)) (cc := cL_is) (maxL := 7) (ret := (some .boolean)) (by decide) (Nat.le_of_ble_eq_true rfl) ?_
  intro p e s m below meth c A hx hb hml hr hts hown hlocks hin hA hP hD hS hE hsz ls hl
  have hown : s.vm.findClass RL = some m.cls := hown
  obtain ⟨H, hH0⟩ : ∃ H, H = s.heap := ⟨_, rfl⟩
  obtain ⟨locs, hlocs0⟩ : ∃ locs : List Loc, locs = [] := ⟨_, rfl⟩
  have hP : va_P D vwCl (WX q cy u ++ rest) H := by rw [hH0]; exact hP
  have hS : va_S A s.heap H locs := by rw [hH0, hlocs0]; exact hS
  have hl : lv_has ls 7 [(0, .ref (q 0)), (1, .long a1), (3, .long a3)] := hl
  suffices hgoal : W p l e rmL_is s m ([.ref (q 0), .long a1, .long a3] : List Value).toArray below meth c H locs 0 0 (MQ below (kQi D A res.1 (WX q cy res.2 ++ rest)) ([.ref (q 0), .long a1, .long a3] : List Value).toArray s 0 0 A) (F0 m 0 ls []) by rw [hH0, hlocs0] at hgoal; exact hgoal
  clear hH0 hlocs0
  unfold mL_is at hf
  refine lv_lload_n hx hb dL_is_0 rfl (lv_at hl 1 rfl) ?_
  refine lv_lload_n hx hb dL_is_1 rfl (lv_at hl 2 rfl) ?_
  obtain ⟨r2, h2r, hf⟩ := o_bs hf
  refine k_gol (va_runS (As := [.long a1, .long a3]) (rest := []) ⟨hx, hb, hml, hown, hts⟩ (zL_divisor l D cy sa (WX q cy u ++ rest) H.size a1 a3  r2  h2r) (va_cwS 2 hts (gB_S wB490 wB491 wB81 wB492) rfl rfl rfl (by decide +kernel) ⟨Nat.le_of_ble_eq_true rfl, Nat.le_of_ble_eq_true rfl⟩) ⟨kP.blind, k_pre hP hD hS hE hA⟩ rfl rfl hl.1 rfl (lv_room (Nat.le_of_ble_eq_true rfl)) dL_is_2 ⟨Nat.zero_le _, Nat.zero_le _⟩) hD hS hA (fun H locs hP hD hS => ?_)
  refine lv_lstore (lv' := [(5, .long r2), (0, .ref (q 0)), (1, .long a1), (3, .long a3)]) hx hb dL_is_5 hl (by decide) rfl (fun ls hl => ?_)
  refine lv_aload_n hx hb dL_is_7 rfl (lv_at hl 1 rfl) ?_
  refine lv_iconst (v := 0) hx hb dL_is_8 (by decide) ?_
  obtain ⟨r9, h9r, hf⟩ := o_bs hf
  refine k_gol (va_runS (As := [.ref (q 0), .int 0]) (rest := []) ⟨hx, hb, hml, hown, hts⟩ (zL_value l D cy sa q rest H.size u 0 r9 h9r) (va_cwS 2 hts (gB_S wB493 wB494 wB81 wB495) rfl rfl rfl (by decide +kernel) ⟨Nat.le_of_ble_eq_true rfl, Nat.le_of_ble_eq_true rfl⟩) ⟨kP.blind, k_pre hP hD hS hE hA⟩ rfl rfl hl.1 rfl (lv_room (Nat.le_of_ble_eq_true rfl)) dL_is_9 ⟨Nat.zero_le _, Nat.zero_le _⟩) hD hS hA (fun H locs hP hD hS => ?_)
  refine lv_lload_n hx hb dL_is_12 rfl (lv_at hl 2 rfl) ?_
  refine lv_lload hx hb dL_is_13 (lv_at hl 0 rfl) ?_
  obtain ⟨hg15, hf⟩ := gd_s hf
  refine lv_ldiv hx hb dL_is_15 hg15 ?_
  refine W.lcmp hx hb dL_is_16 ?_
  obtain ⟨hg17, hf⟩ := gd_s hf
  refine lv_if_ne (tgt := 37) hx hb dL_is_17 (by decide) (fun c17 => absurd hg17 c17) (fun c17 => ?_)
  refine lv_aload_n hx hb dL_is_20 rfl (lv_at hl 1 rfl) ?_
  refine lv_iconst (v := 1) hx hb dL_is_21 (by decide) ?_
  obtain ⟨r22, h22r, hf⟩ := o_bs hf
  refine k_gol (va_runS (As := [.ref (q 0), .int 1]) (rest := []) ⟨hx, hb, hml, hown, hts⟩ (zL_value l D cy sa q rest H.size r9.2 1 r22 h22r) (va_cwS 2 hts (gB_S wB493 wB494 wB81 wB495) rfl rfl rfl (by decide +kernel) ⟨Nat.le_of_ble_eq_true rfl, Nat.le_of_ble_eq_true rfl⟩) ⟨kP.blind, k_pre hP hD hS hE hA⟩ rfl rfl hl.1 rfl (lv_room (Nat.le_of_ble_eq_true rfl)) dL_is_22 ⟨Nat.zero_le _, Nat.zero_le _⟩) hD hS hA (fun H locs hP hD hS => ?_)
  refine lv_lload_n hx hb dL_is_25 rfl (lv_at hl 3 rfl) ?_
  refine lv_lload hx hb dL_is_26 (lv_at hl 0 rfl) ?_
  obtain ⟨hg28, hf⟩ := gd_s hf
  refine lv_ldiv hx hb dL_is_28 hg28 ?_
  refine W.lcmp hx hb dL_is_29 ?_
  obtain ⟨hg30, hf⟩ := gd_s hf
  refine lv_if_ne (tgt := 37) hx hb dL_is_30 (by decide) (fun c30 => absurd hg30 c30) (fun c30 => ?_)
  refine lv_iconst (v := 1) hx hb dL_is_33 (by decide) ?_
  refine lv_goto (tgt := 38) hx hb dL_is_34 (by decide) ?_
  obtain rfl := o_ret hf
  exact k_zret (v := 1) hx hb hr hP hD hS rfl (Nat.zero_le _) (Nat.zero_le _) hlocks dL_is_38
noncomputable def mL_digits_j30 (ju30 : KS) (j30_1 : Int32) : Option (KS) :=
  (mX5_type ju30 (48 + ((j30_1 - j30_1 / 10 * 10).toInt64)) 1).bind fun r41 =>
  some r41.2
noncomputable def mL_digits (u : KS) (a1 : Int32) : Option (KS) :=
  (mX5_type u 32 1).bind fun r5 =>
  if a1 ≤ 9 then
  (mL_digits_j30 r5.2 a1)
  else
  ((mX5_type r5.2 (48 + ((a1 / 10).toInt64)) 1).bind fun r26 =>
  mL_digits_j30 r26.2 a1)
abbrev rmL_digits : Room := { frames := 4, cells := 0, slots := 0, locals := 88 }
set_option maxRecDepth 100000 in
set_option maxHeartbeats 4000000 in
theorem zL_digits (l : Launch) (D : va_G) (cy : Nat → ClassId) (sa : Nat → Nat) (q : Nat → Nat) (rest : va_W) (sz : Nat) (u : KS) (a1 : Int32) (res : KS) (hf : mL_digits u a1 = some res) : kMv l yL_digits (wsK yL_digits cL_digits 2 none) rmL_digits D cy sa (WX q cy u ++ rest) sz [.ref (q 0), .int a1] (WX q cy res ++ rest) 0 0 := by
  refine kM_of (Qc := fun A => kQv D A (WX q cy res ++ rest)) (cc := cL_digits) (maxL := 2) (ret := none) (by decide) (Nat.le_of_ble_eq_true rfl) ?_
  intro p e s m below meth c A hx hb hml hr hts hown hlocks hin hA hP hD hS hE hsz ls hl
  have hown : s.vm.findClass RL = some m.cls := hown
  obtain ⟨H, hH0⟩ : ∃ H, H = s.heap := ⟨_, rfl⟩
  obtain ⟨locs, hlocs0⟩ : ∃ locs : List Loc, locs = [] := ⟨_, rfl⟩
  have hP : va_P D vwCl (WX q cy u ++ rest) H := by rw [hH0]; exact hP
  have hS : va_S A s.heap H locs := by rw [hH0, hlocs0]; exact hS
  have hl : lv_has ls 2 [(0, .ref (q 0)), (1, .int a1)] := hl
  suffices hgoal : W p l e rmL_digits s m ([.ref (q 0), .int a1] : List Value).toArray below meth c H locs 0 0 (MQ below (kQv D A (WX q cy res ++ rest)) ([.ref (q 0), .int a1] : List Value).toArray s 0 0 A) (F0 m 0 ls []) by rw [hH0, hlocs0] at hgoal; exact hgoal
  clear hH0 hlocs0
  unfold mL_digits at hf
  have J30 : ∀ (ju30 : KS) (j30_1 : Int32), mL_digits_j30 ju30 j30_1 = some res → ∀ (H : Heap) (locs : List Loc) (ls : Array Slot), va_P D vwCl (WX q cy ju30 ++ rest) H → va_D A (WX q cy ju30 ++ rest) → va_S A s.heap H locs → lv_has ls 2 [(0, .ref (q 0)), (1, .int j30_1)] → W p l e rmL_digits s m ([.ref (q 0), .int a1] : List Value).toArray below meth c H locs 0 0 (MQ below (kQv D A (WX q cy res ++ rest)) ([.ref (q 0), .int a1] : List Value).toArray s 0 0 A) (F0 m 30 ls []) := by
    intro ju30 j30_1 hf H locs ls hP hD hS hl
    unfold mL_digits_j30 at hf
    refine lv_aload_n hx hb dL_digits_30 rfl (lv_at hl 0 rfl) ?_
    refine lv_ldc2 (v := 48) hx hb hown (hts _ wB128) dL_digits_31 ?_
    refine lv_iload_n hx hb dL_digits_34 rfl (lv_at hl 1 rfl) ?_
    refine lv_bipush (v := 10) hx hb dL_digits_35 (by decide) ?_
    refine lv_irem hx hb dL_digits_37 (by decide) ?_
    refine lv_i2l (v := ((j30_1 - j30_1 / 10 * 10).toInt64)) hx hb dL_digits_38 rfl ?_
    refine lv_ladd hx hb dL_digits_39 ?_
    refine lv_iconst (v := 1) hx hb dL_digits_40 (by decide) ?_
    obtain ⟨r41, h41r, hf⟩ := o_bs hf
    refine k_goi (va_runV (As := [.long (48 + ((j30_1 - j30_1 / 10 * 10).toInt64)), .int 1]) (rest := []) ⟨hx, hb, hml, hown, hts⟩ (zX5_type l D cy sa q rest H.size ju30 (48 + ((j30_1 - j30_1 / 10 * 10).toInt64)) 1 r41 h41r) (cwV 2 hts (gB_V wB96 wB97 wB98 wB2 wB99) rfl rfl rfl (by decide +kernel) ⟨Nat.le_of_ble_eq_true rfl, Nat.le_of_ble_eq_true rfl⟩) ⟨kP.blind, k_recv hE hP (ci := 5) (q0 := 0) rfl rfl, k_pre hP hD hS hE hA⟩ rfl rfl hl.1 rfl (lv_room (Nat.le_of_ble_eq_true rfl)) dL_digits_41 ⟨Nat.zero_le _, Nat.zero_le _⟩) hD hS hA (fun H locs hP hD hS => ?_)
    refine lv_pop hx hb dL_digits_44 rfl ?_
    obtain rfl := o_ret hf
    exact k_vret hx hb hr hP hD hS (Nat.zero_le _) (Nat.zero_le _) hlocks dL_digits_45
  refine lv_aload_n hx hb dL_digits_0 rfl (lv_at hl 0 rfl) ?_
  refine lv_ldc2 (v := 32) hx hb hown (hts _ wB127) dL_digits_1 ?_
  refine lv_iconst (v := 1) hx hb dL_digits_4 (by decide) ?_
  obtain ⟨r5, h5r, hf⟩ := o_bs hf
  refine k_goi (va_runV (As := [.long 32, .int 1]) (rest := []) ⟨hx, hb, hml, hown, hts⟩ (zX5_type l D cy sa q rest H.size u 32 1 r5 h5r) (cwV 2 hts (gB_V wB96 wB97 wB98 wB2 wB99) rfl rfl rfl (by decide +kernel) ⟨Nat.le_of_ble_eq_true rfl, Nat.le_of_ble_eq_true rfl⟩) ⟨kP.blind, k_recv hE hP (ci := 5) (q0 := 0) rfl rfl, k_pre hP hD hS hE hA⟩ rfl rfl hl.1 rfl (lv_room (Nat.le_of_ble_eq_true rfl)) dL_digits_5 ⟨Nat.zero_le _, Nat.zero_le _⟩) hD hS hA (fun H locs hP hD hS => ?_)
  refine lv_pop hx hb dL_digits_8 rfl ?_
  refine lv_iload_n hx hb dL_digits_9 rfl (lv_at hl 1 rfl) ?_
  refine lv_bipush (v := 9) hx hb dL_digits_10 (by decide) ?_
  refine lv_icmp_le (tgt := 30) hx hb dL_digits_12 (by decide) (fun c12 => ?_) (fun c12 => ?_)
  · have hf := o_ip c12 hf
    exact J30 _ _ hf _ _ _ hP hD hS (lv_sub hl [0, 1] rfl)
  · have hf := o_in c12 hf
    refine lv_aload_n hx hb dL_digits_15 rfl (lv_at hl 0 rfl) ?_
    refine lv_ldc2 (v := 48) hx hb hown (hts _ wB128) dL_digits_16 ?_
    refine lv_iload_n hx hb dL_digits_19 rfl (lv_at hl 1 rfl) ?_
    refine lv_bipush (v := 10) hx hb dL_digits_20 (by decide) ?_
    refine lv_idiv hx hb dL_digits_22 (by decide) ?_
    refine lv_i2l (v := ((a1 / 10).toInt64)) hx hb dL_digits_23 rfl ?_
    refine lv_ladd hx hb dL_digits_24 ?_
    refine lv_iconst (v := 1) hx hb dL_digits_25 (by decide) ?_
    obtain ⟨r26, h26r, hf⟩ := o_bs hf
    refine k_goi (va_runV (As := [.long (48 + ((a1 / 10).toInt64)), .int 1]) (rest := []) ⟨hx, hb, hml, hown, hts⟩ (zX5_type l D cy sa q rest H.size r5.2 (48 + ((a1 / 10).toInt64)) 1 r26 h26r) (cwV 2 hts (gB_V wB96 wB97 wB98 wB2 wB99) rfl rfl rfl (by decide +kernel) ⟨Nat.le_of_ble_eq_true rfl, Nat.le_of_ble_eq_true rfl⟩) ⟨kP.blind, k_recv hE hP (ci := 5) (q0 := 0) rfl rfl, k_pre hP hD hS hE hA⟩ rfl rfl hl.1 rfl (lv_room (Nat.le_of_ble_eq_true rfl)) dL_digits_26 ⟨Nat.zero_le _, Nat.zero_le _⟩) hD hS hA (fun H locs hP hD hS => ?_)
    refine lv_pop hx hb dL_digits_29 rfl ?_
    exact J30 _ _ hf _ _ _ hP hD hS (lv_sub hl [0, 1] rfl)
noncomputable def mL_first (sa : Nat → Nat) : Option (Int32) :=
  (mL_cell sa 10).bind fun r3 =>
  if (r3 - r3 / 3 * 3) = 0 then
  ((mL_cell sa 10).bind fun r14 =>
  some ((r14 >>> ((2 : Int32) &&& 31) : Int32) - (r14 >>> ((2 : Int32) &&& 31) : Int32) / 101 * 101))
  else
  (some 0)
abbrev rmL_first : Room := { frames := 1, cells := 0, slots := 0, locals := 21 }
set_option maxRecDepth 100000 in
set_option maxHeartbeats 4000000 in
theorem zL_first (l : Launch) (D : va_G) (cy : Nat → ClassId) (sa : Nat → Nat) (ws : va_W) (sz : Nat) (res : Int32) (hf : mL_first sa = some res) : kMi l yL_first (wsK yL_first cL_first 1 (some .int)) rmL_first D cy sa (ws) sz [.ref (sa 10)] res (ws) 0 0 := by
  refine kM_of (Qc := fun A => kQi D A res (ws)) (cc := cL_first) (maxL := 1) (ret := (some .int)) (by decide) (Nat.le_of_ble_eq_true rfl) ?_
  intro p e s m below meth c A hx hb hml hr hts hown hlocks hin hA hP hD hS hE hsz ls hl
  have hown : s.vm.findClass RL = some m.cls := hown
  obtain ⟨H, hH0⟩ : ∃ H, H = s.heap := ⟨_, rfl⟩
  obtain ⟨locs, hlocs0⟩ : ∃ locs : List Loc, locs = [] := ⟨_, rfl⟩
  have hP : va_P D vwCl (ws) H := by rw [hH0]; exact hP
  have hS : va_S A s.heap H locs := by rw [hH0, hlocs0]; exact hS
  have hl : lv_has ls 1 [(0, .ref (sa 10))] := hl
  suffices hgoal : W p l e rmL_first s m ([.ref (sa 10)] : List Value).toArray below meth c H locs 0 0 (MQ below (kQi D A res (ws)) ([.ref (sa 10)] : List Value).toArray s 0 0 A) (F0 m 0 ls []) by rw [hH0, hlocs0] at hgoal; exact hgoal
  clear hH0 hlocs0
  unfold mL_first at hf
  refine lv_aload_n hx hb dL_first_0 rfl (lv_at hl 0 rfl) ?_
  refine lv_bipush (v := 10) hx hb dL_first_1 (by decide) ?_
  obtain ⟨r3, h3r, hf⟩ := o_bs hf
  refine k_goi (va_runS (As := [.ref (sa 10), .int 10]) (rest := []) ⟨hx, hb, hml, hown, hts⟩ (zL_cell l D cy sa (ws) H.size 10  r3  h3r) (va_cwS 2 hts (gB_S wB91 wB92 wB81 wB93) rfl rfl rfl (by decide +kernel) ⟨Nat.le_of_ble_eq_true rfl, Nat.le_of_ble_eq_true rfl⟩) ⟨kP.blind, k_pre hP hD hS hE hA⟩ rfl rfl hl.1 rfl (lv_room (Nat.le_of_ble_eq_true rfl)) dL_first_3 ⟨Nat.zero_le _, Nat.zero_le _⟩) hD hS hA (fun H locs hP hD hS => ?_)
  refine lv_iconst (v := 3) hx hb dL_first_6 (by decide) ?_
  refine lv_irem hx hb dL_first_7 (by decide) ?_
  refine lv_if_ne (tgt := 25) hx hb dL_first_8 (by decide) (fun c8 => ?_) (fun c8 => ?_)
  · have hf := o_in c8 hf
    refine lv_iconst (v := 0) hx hb dL_first_25 (by decide) ?_
    obtain rfl := o_ret hf
    exact k_iret hx hb hr hP hD hS (Nat.zero_le _) (Nat.zero_le _) hlocks dL_first_26
  · have hf := o_ip c8 hf
    refine lv_aload_n hx hb dL_first_11 rfl (lv_at hl 0 rfl) ?_
    refine lv_bipush (v := 10) hx hb dL_first_12 (by decide) ?_
    obtain ⟨r14, h14r, hf⟩ := o_bs hf
    refine k_goi (va_runS (As := [.ref (sa 10), .int 10]) (rest := []) ⟨hx, hb, hml, hown, hts⟩ (zL_cell l D cy sa (ws) H.size 10  r14  h14r) (va_cwS 2 hts (gB_S wB91 wB92 wB81 wB93) rfl rfl rfl (by decide +kernel) ⟨Nat.le_of_ble_eq_true rfl, Nat.le_of_ble_eq_true rfl⟩) ⟨kP.blind, k_pre hP hD hS hE hA⟩ rfl rfl hl.1 rfl (lv_room (Nat.le_of_ble_eq_true rfl)) dL_first_14 ⟨Nat.zero_le _, Nat.zero_le _⟩) hD hS hA (fun H locs hP hD hS => ?_)
    refine lv_iconst (v := 2) hx hb dL_first_17 (by decide) ?_
    refine lv_ishr hx hb dL_first_18 ?_
    refine lv_bipush (v := 101) hx hb dL_first_19 (by decide) ?_
    refine lv_irem hx hb dL_first_21 (by decide) ?_
    refine lv_goto (tgt := 26) hx hb dL_first_22 (by decide) ?_
    obtain rfl := o_ret hf
    exact k_iret hx hb hr hP hD hS (Nat.zero_le _) (Nat.zero_le _) hlocks dL_first_26
noncomputable def mL_thin (sa : Nat → Nat) : Option (Int32) :=
  (mL_cell sa 11).bind fun r4 =>
  (mL_cell sa 11).bind fun r12 =>
  if (r12 - r12 / 2 * 2) = 0 then
  (some (1 + ((r4 >>> ((2 : Int32) &&& 31) : Int32) - (r4 >>> ((2 : Int32) &&& 31) : Int32) / 12 * 12)))
  else
  (some (1 + ((r4 >>> ((2 : Int32) &&& 31) : Int32) - (r4 >>> ((2 : Int32) &&& 31) : Int32) / 40 * 40)))
abbrev rmL_thin : Room := { frames := 1, cells := 0, slots := 0, locals := 21 }
set_option maxRecDepth 100000 in
set_option maxHeartbeats 4000000 in
theorem zL_thin (l : Launch) (D : va_G) (cy : Nat → ClassId) (sa : Nat → Nat) (ws : va_W) (sz : Nat) (res : Int32) (hf : mL_thin sa = some res) : kMi l yL_thin (wsK yL_thin cL_thin 1 (some .int)) rmL_thin D cy sa (ws) sz [.ref (sa 10)] res (ws) 0 0 := by
  refine kM_of (Qc := fun A => kQi D A res (ws)) (cc := cL_thin) (maxL := 1) (ret := (some .int)) (by decide) (Nat.le_of_ble_eq_true rfl) ?_
  intro p e s m below meth c A hx hb hml hr hts hown hlocks hin hA hP hD hS hE hsz ls hl
  have hown : s.vm.findClass RL = some m.cls := hown
  obtain ⟨H, hH0⟩ : ∃ H, H = s.heap := ⟨_, rfl⟩
  obtain ⟨locs, hlocs0⟩ : ∃ locs : List Loc, locs = [] := ⟨_, rfl⟩
  have hP : va_P D vwCl (ws) H := by rw [hH0]; exact hP
  have hS : va_S A s.heap H locs := by rw [hH0, hlocs0]; exact hS
  have hl : lv_has ls 1 [(0, .ref (sa 10))] := hl
  suffices hgoal : W p l e rmL_thin s m ([.ref (sa 10)] : List Value).toArray below meth c H locs 0 0 (MQ below (kQi D A res (ws)) ([.ref (sa 10)] : List Value).toArray s 0 0 A) (F0 m 0 ls []) by rw [hH0, hlocs0] at hgoal; exact hgoal
  clear hH0 hlocs0
  unfold mL_thin at hf
  refine lv_iconst (v := 1) hx hb dL_thin_0 (by decide) ?_
  refine lv_aload_n hx hb dL_thin_1 rfl (lv_at hl 0 rfl) ?_
  refine lv_bipush (v := 11) hx hb dL_thin_2 (by decide) ?_
  obtain ⟨r4, h4r, hf⟩ := o_bs hf
  refine k_goi (va_runS (As := [.ref (sa 10), .int 11]) (rest := [.int 1]) ⟨hx, hb, hml, hown, hts⟩ (zL_cell l D cy sa (ws) H.size 11  r4  h4r) (va_cwS 2 hts (gB_S wB91 wB92 wB81 wB93) rfl rfl rfl (by decide +kernel) ⟨Nat.le_of_ble_eq_true rfl, Nat.le_of_ble_eq_true rfl⟩) ⟨kP.blind, k_pre hP hD hS hE hA⟩ rfl rfl hl.1 rfl (lv_room (Nat.le_of_ble_eq_true rfl)) dL_thin_4 ⟨Nat.zero_le _, Nat.zero_le _⟩) hD hS hA (fun H locs hP hD hS => ?_)
  refine lv_iconst (v := 2) hx hb dL_thin_7 (by decide) ?_
  refine lv_ishr hx hb dL_thin_8 ?_
  refine lv_aload_n hx hb dL_thin_9 rfl (lv_at hl 0 rfl) ?_
  refine lv_bipush (v := 11) hx hb dL_thin_10 (by decide) ?_
  obtain ⟨r12, h12r, hf⟩ := o_bs hf
  refine k_goi (va_runS (As := [.ref (sa 10), .int 11]) (rest := [.int (r4 >>> ((2 : Int32) &&& 31) : Int32), .int 1]) ⟨hx, hb, hml, hown, hts⟩ (zL_cell l D cy sa (ws) H.size 11  r12  h12r) (va_cwS 2 hts (gB_S wB91 wB92 wB81 wB93) rfl rfl rfl (by decide +kernel) ⟨Nat.le_of_ble_eq_true rfl, Nat.le_of_ble_eq_true rfl⟩) ⟨kP.blind, k_pre hP hD hS hE hA⟩ rfl rfl hl.1 rfl (lv_room (Nat.le_of_ble_eq_true rfl)) dL_thin_12 ⟨Nat.zero_le _, Nat.zero_le _⟩) hD hS hA (fun H locs hP hD hS => ?_)
  refine lv_iconst (v := 2) hx hb dL_thin_15 (by decide) ?_
  refine lv_irem hx hb dL_thin_16 (by decide) ?_
  refine lv_if_ne (tgt := 25) hx hb dL_thin_17 (by decide) (fun c17 => ?_) (fun c17 => ?_)
  · have hf := o_in c17 hf
    refine lv_bipush (v := 40) hx hb dL_thin_25 (by decide) ?_
    refine lv_irem hx hb dL_thin_27 (by decide) ?_
    refine lv_iadd hx hb dL_thin_28 ?_
    obtain rfl := o_ret hf
    exact k_iret hx hb hr hP hD hS (Nat.zero_le _) (Nat.zero_le _) hlocks dL_thin_29
  · have hf := o_ip c17 hf
    refine lv_bipush (v := 12) hx hb dL_thin_20 (by decide) ?_
    refine lv_goto (tgt := 27) hx hb dL_thin_22 (by decide) ?_
    refine lv_irem hx hb dL_thin_27 (by decide) ?_
    refine lv_iadd hx hb dL_thin_28 ?_
    obtain rfl := o_ret hf
    exact k_iret hx hb hr hP hD hS (Nat.zero_le _) (Nat.zero_le _) hlocks dL_thin_29
noncomputable def mL_right (sa : Nat → Nat) : Option (Int32) :=
  (mL_cell sa 11).bind fun r4 =>
  some (1 + ((r4 >>> ((8 : Int32) &&& 31) : Int32) - (r4 >>> ((8 : Int32) &&& 31) : Int32) / 9 * 9))
abbrev rmL_right : Room := { frames := 1, cells := 0, slots := 0, locals := 21 }
set_option maxRecDepth 100000 in
set_option maxHeartbeats 4000000 in
theorem zL_right (l : Launch) (D : va_G) (cy : Nat → ClassId) (sa : Nat → Nat) (ws : va_W) (sz : Nat) (res : Int32) (hf : mL_right sa = some res) : kMi l yL_right (wsK yL_right cL_right 1 (some .int)) rmL_right D cy sa (ws) sz [.ref (sa 10)] res (ws) 0 0 := by
  refine kM_of (Qc := fun A => kQi D A res (ws)) (cc := cL_right) (maxL := 1) (ret := (some .int)) (by decide) (Nat.le_of_ble_eq_true rfl) ?_
  intro p e s m below meth c A hx hb hml hr hts hown hlocks hin hA hP hD hS hE hsz ls hl
  have hown : s.vm.findClass RL = some m.cls := hown
  obtain ⟨H, hH0⟩ : ∃ H, H = s.heap := ⟨_, rfl⟩
  obtain ⟨locs, hlocs0⟩ : ∃ locs : List Loc, locs = [] := ⟨_, rfl⟩
  have hP : va_P D vwCl (ws) H := by rw [hH0]; exact hP
  have hS : va_S A s.heap H locs := by rw [hH0, hlocs0]; exact hS
  have hl : lv_has ls 1 [(0, .ref (sa 10))] := hl
  suffices hgoal : W p l e rmL_right s m ([.ref (sa 10)] : List Value).toArray below meth c H locs 0 0 (MQ below (kQi D A res (ws)) ([.ref (sa 10)] : List Value).toArray s 0 0 A) (F0 m 0 ls []) by rw [hH0, hlocs0] at hgoal; exact hgoal
  clear hH0 hlocs0
  unfold mL_right at hf
  refine lv_iconst (v := 1) hx hb dL_right_0 (by decide) ?_
  refine lv_aload_n hx hb dL_right_1 rfl (lv_at hl 0 rfl) ?_
  refine lv_bipush (v := 11) hx hb dL_right_2 (by decide) ?_
  obtain ⟨r4, h4r, hf⟩ := o_bs hf
  refine k_goi (va_runS (As := [.ref (sa 10), .int 11]) (rest := [.int 1]) ⟨hx, hb, hml, hown, hts⟩ (zL_cell l D cy sa (ws) H.size 11  r4  h4r) (va_cwS 2 hts (gB_S wB91 wB92 wB81 wB93) rfl rfl rfl (by decide +kernel) ⟨Nat.le_of_ble_eq_true rfl, Nat.le_of_ble_eq_true rfl⟩) ⟨kP.blind, k_pre hP hD hS hE hA⟩ rfl rfl hl.1 rfl (lv_room (Nat.le_of_ble_eq_true rfl)) dL_right_4 ⟨Nat.zero_le _, Nat.zero_le _⟩) hD hS hA (fun H locs hP hD hS => ?_)
  refine lv_bipush (v := 8) hx hb dL_right_7 (by decide) ?_
  refine lv_ishr hx hb dL_right_9 ?_
  refine lv_bipush (v := 9) hx hb dL_right_10 (by decide) ?_
  refine lv_irem hx hb dL_right_12 (by decide) ?_
  refine lv_iadd hx hb dL_right_13 ?_
  obtain rfl := o_ret hf
  exact k_iret hx hb hr hP hD hS (Nat.zero_le _) (Nat.zero_le _) hlocks dL_right_14
noncomputable def mL_sound (sa : Nat → Nat) : Option (Int32) :=
  (mL_cell sa 11).bind fun r3 =>
  some ((r3 >>> ((12 : Int32) &&& 31) : Int32) - (r3 >>> ((12 : Int32) &&& 31) : Int32) / 100 * 100)
abbrev rmL_sound : Room := { frames := 1, cells := 0, slots := 0, locals := 21 }
set_option maxRecDepth 100000 in
set_option maxHeartbeats 4000000 in
theorem zL_sound (l : Launch) (D : va_G) (cy : Nat → ClassId) (sa : Nat → Nat) (ws : va_W) (sz : Nat) (res : Int32) (hf : mL_sound sa = some res) : kMi l yL_sound (wsK yL_sound cL_sound 1 (some .int)) rmL_sound D cy sa (ws) sz [.ref (sa 10)] res (ws) 0 0 := by
  refine kM_of (Qc := fun A => kQi D A res (ws)) (cc := cL_sound) (maxL := 1) (ret := (some .int)) (by decide) (Nat.le_of_ble_eq_true rfl) ?_
  intro p e s m below meth c A hx hb hml hr hts hown hlocks hin hA hP hD hS hE hsz ls hl
  have hown : s.vm.findClass RL = some m.cls := hown
  obtain ⟨H, hH0⟩ : ∃ H, H = s.heap := ⟨_, rfl⟩
  obtain ⟨locs, hlocs0⟩ : ∃ locs : List Loc, locs = [] := ⟨_, rfl⟩
  have hP : va_P D vwCl (ws) H := by rw [hH0]; exact hP
  have hS : va_S A s.heap H locs := by rw [hH0, hlocs0]; exact hS
  have hl : lv_has ls 1 [(0, .ref (sa 10))] := hl
  suffices hgoal : W p l e rmL_sound s m ([.ref (sa 10)] : List Value).toArray below meth c H locs 0 0 (MQ below (kQi D A res (ws)) ([.ref (sa 10)] : List Value).toArray s 0 0 A) (F0 m 0 ls []) by rw [hH0, hlocs0] at hgoal; exact hgoal
  clear hH0 hlocs0
  unfold mL_sound at hf
  refine lv_aload_n hx hb dL_sound_0 rfl (lv_at hl 0 rfl) ?_
  refine lv_bipush (v := 11) hx hb dL_sound_1 (by decide) ?_
  obtain ⟨r3, h3r, hf⟩ := o_bs hf
  refine k_goi (va_runS (As := [.ref (sa 10), .int 11]) (rest := []) ⟨hx, hb, hml, hown, hts⟩ (zL_cell l D cy sa (ws) H.size 11  r3  h3r) (va_cwS 2 hts (gB_S wB91 wB92 wB81 wB93) rfl rfl rfl (by decide +kernel) ⟨Nat.le_of_ble_eq_true rfl, Nat.le_of_ble_eq_true rfl⟩) ⟨kP.blind, k_pre hP hD hS hE hA⟩ rfl rfl hl.1 rfl (lv_room (Nat.le_of_ble_eq_true rfl)) dL_sound_3 ⟨Nat.zero_le _, Nat.zero_le _⟩) hD hS hA (fun H locs hP hD hS => ?_)
  refine lv_bipush (v := 12) hx hb dL_sound_6 (by decide) ?_
  refine lv_ishr hx hb dL_sound_8 ?_
  refine lv_bipush (v := 100) hx hb dL_sound_9 (by decide) ?_
  refine lv_irem hx hb dL_sound_11 (by decide) ?_
  obtain rfl := o_ret hf
  exact k_iret hx hb hr hP hD hS (Nat.zero_le _) (Nat.zero_le _) hlocks dL_sound_12
noncomputable def mL_prior (sa : Nat → Nat) (a1 : Int32) : Option (Int32) :=
  (mL_cell sa 12).bind fun r3 =>
  if a1 = 6 then
  (some ((r3 >>> ((4 * a1) &&& 31) : Int32) - (r3 >>> ((4 * a1) &&& 31) : Int32) / 5 * 5))
  else
  (some ((r3 >>> ((4 * a1) &&& 31) : Int32) - (r3 >>> ((4 * a1) &&& 31) : Int32) / 10 * 10))
abbrev rmL_prior : Room := { frames := 1, cells := 0, slots := 0, locals := 21 }
set_option maxRecDepth 100000 in
set_option maxHeartbeats 4000000 in
theorem zL_prior (l : Launch) (D : va_G) (cy : Nat → ClassId) (sa : Nat → Nat) (ws : va_W) (sz : Nat) (a1 : Int32) (res : Int32) (hf : mL_prior sa a1 = some res) : kMi l yL_prior (wsK yL_prior cL_prior 2 (some .int)) rmL_prior D cy sa (ws) sz [.ref (sa 10), .int a1] res (ws) 0 0 := by
  refine kM_of (Qc := fun A => kQi D A res (ws)) (cc := cL_prior) (maxL := 2) (ret := (some .int)) (by decide) (Nat.le_of_ble_eq_true rfl) ?_
  intro p e s m below meth c A hx hb hml hr hts hown hlocks hin hA hP hD hS hE hsz ls hl
  have hown : s.vm.findClass RL = some m.cls := hown
  obtain ⟨H, hH0⟩ : ∃ H, H = s.heap := ⟨_, rfl⟩
  obtain ⟨locs, hlocs0⟩ : ∃ locs : List Loc, locs = [] := ⟨_, rfl⟩
  have hP : va_P D vwCl (ws) H := by rw [hH0]; exact hP
  have hS : va_S A s.heap H locs := by rw [hH0, hlocs0]; exact hS
  have hl : lv_has ls 2 [(0, .ref (sa 10)), (1, .int a1)] := hl
  suffices hgoal : W p l e rmL_prior s m ([.ref (sa 10), .int a1] : List Value).toArray below meth c H locs 0 0 (MQ below (kQi D A res (ws)) ([.ref (sa 10), .int a1] : List Value).toArray s 0 0 A) (F0 m 0 ls []) by rw [hH0, hlocs0] at hgoal; exact hgoal
  clear hH0 hlocs0
  unfold mL_prior at hf
  refine lv_aload_n hx hb dL_prior_0 rfl (lv_at hl 0 rfl) ?_
  refine lv_bipush (v := 12) hx hb dL_prior_1 (by decide) ?_
  obtain ⟨r3, h3r, hf⟩ := o_bs hf
  refine k_goi (va_runS (As := [.ref (sa 10), .int 12]) (rest := []) ⟨hx, hb, hml, hown, hts⟩ (zL_cell l D cy sa (ws) H.size 12  r3  h3r) (va_cwS 2 hts (gB_S wB91 wB92 wB81 wB93) rfl rfl rfl (by decide +kernel) ⟨Nat.le_of_ble_eq_true rfl, Nat.le_of_ble_eq_true rfl⟩) ⟨kP.blind, k_pre hP hD hS hE hA⟩ rfl rfl hl.1 rfl (lv_room (Nat.le_of_ble_eq_true rfl)) dL_prior_3 ⟨Nat.zero_le _, Nat.zero_le _⟩) hD hS hA (fun H locs hP hD hS => ?_)
  refine lv_iconst (v := 4) hx hb dL_prior_6 (by decide) ?_
  refine lv_iload_n hx hb dL_prior_7 rfl (lv_at hl 1 rfl) ?_
  refine lv_imul hx hb dL_prior_8 ?_
  refine lv_ishr hx hb dL_prior_9 ?_
  refine lv_iload_n hx hb dL_prior_10 rfl (lv_at hl 1 rfl) ?_
  refine lv_bipush (v := 6) hx hb dL_prior_11 (by decide) ?_
  refine lv_icmp_ne (tgt := 20) hx hb dL_prior_13 (by decide) (fun c13 => ?_) (fun c13 => ?_)
  · have hf := o_in c13 hf
    refine lv_bipush (v := 10) hx hb dL_prior_20 (by decide) ?_
    refine lv_irem hx hb dL_prior_22 (by decide) ?_
    obtain rfl := o_ret hf
    exact k_iret hx hb hr hP hD hS (Nat.zero_le _) (Nat.zero_le _) hlocks dL_prior_23
  · have hf := o_ip c13 hf
    refine lv_iconst (v := 5) hx hb dL_prior_16 (by decide) ?_
    refine lv_goto (tgt := 22) hx hb dL_prior_17 (by decide) ?_
    refine lv_irem hx hb dL_prior_22 (by decide) ?_
    obtain rfl := o_ret hf
    exact k_iret hx hb hr hP hD hS (Nat.zero_le _) (Nat.zero_le _) hlocks dL_prior_23
noncomputable def mL_looks (sa : Nat → Nat) : Option (Int32) :=
  (mL_cell sa 13).bind fun r3 =>
  some (r3 - r3 / 4 * 4)
abbrev rmL_looks : Room := { frames := 1, cells := 0, slots := 0, locals := 21 }
set_option maxRecDepth 100000 in
set_option maxHeartbeats 4000000 in
theorem zL_looks (l : Launch) (D : va_G) (cy : Nat → ClassId) (sa : Nat → Nat) (ws : va_W) (sz : Nat) (res : Int32) (hf : mL_looks sa = some res) : kMi l yL_looks (wsK yL_looks cL_looks 1 (some .int)) rmL_looks D cy sa (ws) sz [.ref (sa 10)] res (ws) 0 0 := by
  refine kM_of (Qc := fun A => kQi D A res (ws)) (cc := cL_looks) (maxL := 1) (ret := (some .int)) (by decide) (Nat.le_of_ble_eq_true rfl) ?_
  intro p e s m below meth c A hx hb hml hr hts hown hlocks hin hA hP hD hS hE hsz ls hl
  have hown : s.vm.findClass RL = some m.cls := hown
  obtain ⟨H, hH0⟩ : ∃ H, H = s.heap := ⟨_, rfl⟩
  obtain ⟨locs, hlocs0⟩ : ∃ locs : List Loc, locs = [] := ⟨_, rfl⟩
  have hP : va_P D vwCl (ws) H := by rw [hH0]; exact hP
  have hS : va_S A s.heap H locs := by rw [hH0, hlocs0]; exact hS
  have hl : lv_has ls 1 [(0, .ref (sa 10))] := hl
  suffices hgoal : W p l e rmL_looks s m ([.ref (sa 10)] : List Value).toArray below meth c H locs 0 0 (MQ below (kQi D A res (ws)) ([.ref (sa 10)] : List Value).toArray s 0 0 A) (F0 m 0 ls []) by rw [hH0, hlocs0] at hgoal; exact hgoal
  clear hH0 hlocs0
  unfold mL_looks at hf
  refine lv_aload_n hx hb dL_looks_0 rfl (lv_at hl 0 rfl) ?_
  refine lv_bipush (v := 13) hx hb dL_looks_1 (by decide) ?_
  obtain ⟨r3, h3r, hf⟩ := o_bs hf
  refine k_goi (va_runS (As := [.ref (sa 10), .int 13]) (rest := []) ⟨hx, hb, hml, hown, hts⟩ (zL_cell l D cy sa (ws) H.size 13  r3  h3r) (va_cwS 2 hts (gB_S wB91 wB92 wB81 wB93) rfl rfl rfl (by decide +kernel) ⟨Nat.le_of_ble_eq_true rfl, Nat.le_of_ble_eq_true rfl⟩) ⟨kP.blind, k_pre hP hD hS hE hA⟩ rfl rfl hl.1 rfl (lv_room (Nat.le_of_ble_eq_true rfl)) dL_looks_3 ⟨Nat.zero_le _, Nat.zero_le _⟩) hD hS hA (fun H locs hP hD hS => ?_)
  refine lv_iconst (v := 4) hx hb dL_looks_6 (by decide) ?_
  refine lv_irem hx hb dL_looks_7 (by decide) ?_
  obtain rfl := o_ret hf
  exact k_iret hx hb hr hP hD hS (Nat.zero_le _) (Nat.zero_le _) hlocks dL_looks_8
noncomputable def mL_look (sa : Nat → Nat) (a1 : Int32) (a2 : Int32) : Option (Int32) :=
  (mL_cell sa (14 + a1)).bind fun r5 =>
  if a2 = 0 then
  (some (r5 - r5 / 70 * 70))
  else
  (if a2 = 1 then
  (some ((r5 >>> ((7 : Int32) &&& 31) : Int32) - (r5 >>> ((7 : Int32) &&& 31) : Int32) / 4 * 4))
  else
  (if a2 = 2 then
  (if 4 ≤ ((r5 >>> ((9 : Int32) &&& 31) : Int32) - (r5 >>> ((9 : Int32) &&& 31) : Int32) / 9 * 9) then
  (some (-1))
  else
  (some ((r5 >>> ((9 : Int32) &&& 31) : Int32) - (r5 >>> ((9 : Int32) &&& 31) : Int32) / 9 * 9)))
  else
  (some ((r5 >>> ((13 : Int32) &&& 31) : Int32) - (r5 >>> ((13 : Int32) &&& 31) : Int32) / 3 * 3))))
abbrev rmL_look : Room := { frames := 1, cells := 0, slots := 0, locals := 21 }
set_option maxRecDepth 100000 in
set_option maxHeartbeats 4000000 in
theorem zL_look (l : Launch) (D : va_G) (cy : Nat → ClassId) (sa : Nat → Nat) (ws : va_W) (sz : Nat) (a1 : Int32) (a2 : Int32) (res : Int32) (hf : mL_look sa a1 a2 = some res) : kMi l yL_look (wsK yL_look cL_look 4 (some .int)) rmL_look D cy sa (ws) sz [.ref (sa 10), .int a1, .int a2] res (ws) 0 0 := by
  refine kM_of (Qc := fun A => kQi D A res (ws)) (cc := cL_look) (maxL := 4) (ret := (some .int)) (by decide) (Nat.le_of_ble_eq_true rfl) ?_
  intro p e s m below meth c A hx hb hml hr hts hown hlocks hin hA hP hD hS hE hsz ls hl
  have hown : s.vm.findClass RL = some m.cls := hown
  obtain ⟨H, hH0⟩ : ∃ H, H = s.heap := ⟨_, rfl⟩
  obtain ⟨locs, hlocs0⟩ : ∃ locs : List Loc, locs = [] := ⟨_, rfl⟩
  have hP : va_P D vwCl (ws) H := by rw [hH0]; exact hP
  have hS : va_S A s.heap H locs := by rw [hH0, hlocs0]; exact hS
  have hl : lv_has ls 4 [(0, .ref (sa 10)), (1, .int a1), (2, .int a2)] := hl
  suffices hgoal : W p l e rmL_look s m ([.ref (sa 10), .int a1, .int a2] : List Value).toArray below meth c H locs 0 0 (MQ below (kQi D A res (ws)) ([.ref (sa 10), .int a1, .int a2] : List Value).toArray s 0 0 A) (F0 m 0 ls []) by rw [hH0, hlocs0] at hgoal; exact hgoal
  clear hH0 hlocs0
  unfold mL_look at hf
  refine lv_aload_n hx hb dL_look_0 rfl (lv_at hl 0 rfl) ?_
  refine lv_bipush (v := 14) hx hb dL_look_1 (by decide) ?_
  refine lv_iload_n hx hb dL_look_3 rfl (lv_at hl 1 rfl) ?_
  refine lv_iadd hx hb dL_look_4 ?_
  obtain ⟨r5, h5r, hf⟩ := o_bs hf
  refine k_goi (va_runS (As := [.ref (sa 10), .int (14 + a1)]) (rest := []) ⟨hx, hb, hml, hown, hts⟩ (zL_cell l D cy sa (ws) H.size (14 + a1)  r5  h5r) (va_cwS 2 hts (gB_S wB91 wB92 wB81 wB93) rfl rfl rfl (by decide +kernel) ⟨Nat.le_of_ble_eq_true rfl, Nat.le_of_ble_eq_true rfl⟩) ⟨kP.blind, k_pre hP hD hS hE hA⟩ rfl rfl hl.1 rfl (lv_room (Nat.le_of_ble_eq_true rfl)) dL_look_5 ⟨Nat.zero_le _, Nat.zero_le _⟩) hD hS hA (fun H locs hP hD hS => ?_)
  refine lv_istore_n (lv' := [(3, .int r5), (0, .ref (sa 10)), (1, .int a1), (2, .int a2)]) hx hb dL_look_8 rfl hl (by decide) rfl (fun ls hl => ?_)
  refine lv_iload_n hx hb dL_look_9 rfl (lv_at hl 3 rfl) ?_
  refine lv_if_ne (tgt := 20) hx hb dL_look_10 (by decide) (fun c10 => ?_) (fun c10 => ?_)
  · have hf := o_in c10 hf
    refine lv_iload_n hx hb dL_look_20 rfl (lv_at hl 3 rfl) ?_
    refine lv_iconst (v := 1) hx hb dL_look_21 (by decide) ?_
    refine lv_icmp_ne (tgt := 34) hx hb dL_look_22 (by decide) (fun c22 => ?_) (fun c22 => ?_)
    · have hf := o_in c22 hf
      refine lv_iload_n hx hb dL_look_34 rfl (lv_at hl 3 rfl) ?_
      refine lv_iconst (v := 2) hx hb dL_look_35 (by decide) ?_
      refine lv_icmp_ne (tgt := 64) hx hb dL_look_36 (by decide) (fun c36 => ?_) (fun c36 => ?_)
      · have hf := o_in c36 hf
        refine lv_iload_n hx hb dL_look_64 rfl (lv_at hl 0 rfl) ?_
        refine lv_bipush (v := 13) hx hb dL_look_65 (by decide) ?_
        refine lv_ishr hx hb dL_look_67 ?_
        refine lv_iconst (v := 3) hx hb dL_look_68 (by decide) ?_
        refine lv_irem hx hb dL_look_69 (by decide) ?_
        obtain rfl := o_ret hf
        exact k_iret hx hb hr hP hD hS (Nat.zero_le _) (Nat.zero_le _) hlocks dL_look_70
      · have hf := o_ip c36 hf
        refine lv_iload_n hx hb dL_look_39 rfl (lv_at hl 0 rfl) ?_
        refine lv_bipush (v := 9) hx hb dL_look_40 (by decide) ?_
        refine lv_ishr hx hb dL_look_42 ?_
        refine lv_bipush (v := 9) hx hb dL_look_43 (by decide) ?_
        refine lv_irem hx hb dL_look_45 (by decide) ?_
        refine lv_iconst (v := 4) hx hb dL_look_46 (by decide) ?_
        refine lv_icmp_ge (tgt := 60) hx hb dL_look_47 (by decide) (fun c47 => ?_) (fun c47 => ?_)
        · have hf := o_ip c47 hf
          refine lv_iconst (v := (-1)) hx hb dL_look_60 (by decide) ?_
          refine lv_goto (tgt := 70) hx hb dL_look_61 (by decide) ?_
          obtain rfl := o_ret hf
          exact k_iret hx hb hr hP hD hS (Nat.zero_le _) (Nat.zero_le _) hlocks dL_look_70
        · have hf := o_in c47 hf
          refine lv_iload_n hx hb dL_look_50 rfl (lv_at hl 0 rfl) ?_
          refine lv_bipush (v := 9) hx hb dL_look_51 (by decide) ?_
          refine lv_ishr hx hb dL_look_53 ?_
          refine lv_bipush (v := 9) hx hb dL_look_54 (by decide) ?_
          refine lv_irem hx hb dL_look_56 (by decide) ?_
          refine lv_goto (tgt := 70) hx hb dL_look_57 (by decide) ?_
          obtain rfl := o_ret hf
          exact k_iret hx hb hr hP hD hS (Nat.zero_le _) (Nat.zero_le _) hlocks dL_look_70
    · have hf := o_ip c22 hf
      refine lv_iload_n hx hb dL_look_25 rfl (lv_at hl 0 rfl) ?_
      refine lv_bipush (v := 7) hx hb dL_look_26 (by decide) ?_
      refine lv_ishr hx hb dL_look_28 ?_
      refine lv_iconst (v := 4) hx hb dL_look_29 (by decide) ?_
      refine lv_irem hx hb dL_look_30 (by decide) ?_
      refine lv_goto (tgt := 70) hx hb dL_look_31 (by decide) ?_
      obtain rfl := o_ret hf
      exact k_iret hx hb hr hP hD hS (Nat.zero_le _) (Nat.zero_le _) hlocks dL_look_70
  · have hf := o_ip c10 hf
    refine lv_iload_n hx hb dL_look_13 rfl (lv_at hl 0 rfl) ?_
    refine lv_bipush (v := 70) hx hb dL_look_14 (by decide) ?_
    refine lv_irem hx hb dL_look_16 (by decide) ?_
    refine lv_goto (tgt := 70) hx hb dL_look_17 (by decide) ?_
    obtain rfl := o_ret hf
    exact k_iret hx hb hr hP hD hS (Nat.zero_le _) (Nat.zero_le _) hlocks dL_look_70
noncomputable def mL_looked_s49 (sa : Nat → Nat) (s49 : Int32 × KS) : Option ((KS) ⊕ (Int32 × KS)) :=
  if 7 ≤ s49.1 then
  (some (.inl s49.2))
  else
  ((mL_prior sa s49.1).bind fun r63 =>
  (mX5_prior s49.2 s49.1 r63).bind fun r66 =>
  gd (r66.1 = 1) (some (.inr ((s49.1 + 1), r66.2))))
noncomputable def mL_looked_s87 (sa : Nat → Nat) (s87 : Int32 × KS) : Option ((KS) ⊕ (Int32 × KS)) :=
  (mL_looks sa).bind fun r89 =>
  if r89 ≤ s87.1 then
  (some (.inl s87.2))
  else
  ((mL_look sa s87.1 0).bind fun r103 =>
  (mL_look sa s87.1 1).bind fun r109 =>
  (mL_look sa s87.1 2).bind fun r115 =>
  (mL_look sa s87.1 3).bind fun r121 =>
  (mX5_look s87.2 r103 r109 r115 r121).bind fun r124 =>
  gd (r124.1 = s87.1) (some (.inr ((s87.1 + 1), r124.2))))
noncomputable def mL_looked (sa : Nat → Nat) (u : KS) : Option (Int32 × KS) :=
  (mL_thin sa).bind fun r3 =>
  (mX5_put u 1 r3).bind fun r6 =>
  gd (r6.1 = 5) ((mL_right sa).bind fun r16 =>
  (mX5_put r6.2 2 r16).bind fun r19 =>
  gd (r19.1 = 8) ((mL_sound sa).bind fun r30 =>
  (mX5_put r19.2 3 r30).bind fun r33 =>
  gd (r33.1 = 9) ((lpF (mL_looked_s49 sa) (0, r33.2)).bind fun e49 =>
  (lpF (mL_looked_s87 sa) (0, e49)).bind fun e87 =>
  some (1, e87))))
abbrev rmL_looked : Room := { frames := 4, cells := 0, slots := 0, locals := 90 }
set_option maxRecDepth 100000 in
set_option maxHeartbeats 4000000 in
theorem zL_looked (l : Launch) (D : va_G) (cy : Nat → ClassId) (sa : Nat → Nat) (q : Nat → Nat) (rest : va_W) (sz : Nat) (u : KS) (res : Int32 × KS) (hf : mL_looked sa u = some res) : kMi l yL_looked (wsK yL_looked cL_looked 4 (some .boolean)) rmL_looked D cy sa (WX q cy u ++ rest) sz [.ref (q 0), .ref (sa 10)] res.1 (WX q cy res.2 ++ rest) 0 0 := by
  refine kM_of (Qc := fun A => kQi D A res.1 (WX q cy res.2 ++ rest)) (cc := cL_looked) (maxL := 4) (ret := (some .boolean)) (by decide) (Nat.le_of_ble_eq_true rfl) ?_
  intro p e s m below meth c A hx hb hml hr hts hown hlocks hin hA hP hD hS hE hsz ls hl
  have hown : s.vm.findClass RL = some m.cls := hown
  obtain ⟨H, hH0⟩ : ∃ H, H = s.heap := ⟨_, rfl⟩
  obtain ⟨locs, hlocs0⟩ : ∃ locs : List Loc, locs = [] := ⟨_, rfl⟩
  have hP : va_P D vwCl (WX q cy u ++ rest) H := by rw [hH0]; exact hP
  have hS : va_S A s.heap H locs := by rw [hH0, hlocs0]; exact hS
  have hl : lv_has ls 4 [(0, .ref (q 0)), (1, .ref (sa 10))] := hl
  suffices hgoal : W p l e rmL_looked s m ([.ref (q 0), .ref (sa 10)] : List Value).toArray below meth c H locs 0 0 (MQ below (kQi D A res.1 (WX q cy res.2 ++ rest)) ([.ref (q 0), .ref (sa 10)] : List Value).toArray s 0 0 A) (F0 m 0 ls []) by rw [hH0, hlocs0] at hgoal; exact hgoal
  clear hH0 hlocs0
  unfold mL_looked at hf
  refine lv_aload_n hx hb dL_looked_0 rfl (lv_at hl 0 rfl) ?_
  refine lv_iconst (v := 1) hx hb dL_looked_1 (by decide) ?_
  refine lv_aload_n hx hb dL_looked_2 rfl (lv_at hl 1 rfl) ?_
  obtain ⟨r3, h3r, hf⟩ := o_bs hf
  refine k_goi (va_runS (As := [.ref (sa 10)]) (rest := [.int 1, .ref (q 0)]) ⟨hx, hb, hml, hown, hts⟩ (zL_thin l D cy sa (WX q cy u ++ rest) H.size   r3  h3r) (va_cwS 1 hts (gB_S wB255 wB256 wB81 wB257) rfl rfl rfl (by decide +kernel) ⟨Nat.le_of_ble_eq_true rfl, Nat.le_of_ble_eq_true rfl⟩) ⟨kP.blind, k_pre hP hD hS hE hA⟩ rfl rfl hl.1 rfl (lv_room (Nat.le_of_ble_eq_true rfl)) dL_looked_3 ⟨Nat.zero_le _, Nat.zero_le _⟩) hD hS hA (fun H locs hP hD hS => ?_)
  obtain ⟨r6, h6r, hf⟩ := o_bs hf
  refine k_goi (va_runV (As := [.int 1, .int r3]) (rest := []) ⟨hx, hb, hml, hown, hts⟩ (zX5_put l D cy sa q rest H.size u 1 r3 r6 h6r) (cwV 2 hts (gB_V wB132 wB133 wB134 wB2 wB135) rfl rfl rfl (by decide +kernel) ⟨Nat.le_of_ble_eq_true rfl, Nat.le_of_ble_eq_true rfl⟩) ⟨kP.blind, k_recv hE hP (ci := 5) (q0 := 0) rfl rfl, k_pre hP hD hS hE hA⟩ rfl rfl hl.1 rfl (lv_room (Nat.le_of_ble_eq_true rfl)) dL_looked_6 ⟨Nat.zero_le _, Nat.zero_le _⟩) hD hS hA (fun H locs hP hD hS => ?_)
  refine lv_iconst (v := 5) hx hb dL_looked_9 (by decide) ?_
  obtain ⟨hg10, hf⟩ := gd_s hf
  refine lv_icmp_ne (tgt := 45) hx hb dL_looked_10 (by decide) (fun c10 => absurd hg10 c10) (fun c10 => ?_)
  refine lv_aload_n hx hb dL_looked_13 rfl (lv_at hl 0 rfl) ?_
  refine lv_iconst (v := 2) hx hb dL_looked_14 (by decide) ?_
  refine lv_aload_n hx hb dL_looked_15 rfl (lv_at hl 1 rfl) ?_
  obtain ⟨r16, h16r, hf⟩ := o_bs hf
  refine k_goi (va_runS (As := [.ref (sa 10)]) (rest := [.int 2, .ref (q 0)]) ⟨hx, hb, hml, hown, hts⟩ (zL_right l D cy sa (WX q cy r6.2 ++ rest) H.size   r16  h16r) (va_cwS 1 hts (gB_S wB258 wB259 wB81 wB260) rfl rfl rfl (by decide +kernel) ⟨Nat.le_of_ble_eq_true rfl, Nat.le_of_ble_eq_true rfl⟩) ⟨kP.blind, k_pre hP hD hS hE hA⟩ rfl rfl hl.1 rfl (lv_room (Nat.le_of_ble_eq_true rfl)) dL_looked_16 ⟨Nat.zero_le _, Nat.zero_le _⟩) hD hS hA (fun H locs hP hD hS => ?_)
  obtain ⟨r19, h19r, hf⟩ := o_bs hf
  refine k_goi (va_runV (As := [.int 2, .int r16]) (rest := []) ⟨hx, hb, hml, hown, hts⟩ (zX5_put l D cy sa q rest H.size r6.2 2 r16 r19 h19r) (cwV 2 hts (gB_V wB132 wB133 wB134 wB2 wB135) rfl rfl rfl (by decide +kernel) ⟨Nat.le_of_ble_eq_true rfl, Nat.le_of_ble_eq_true rfl⟩) ⟨kP.blind, k_recv hE hP (ci := 5) (q0 := 0) rfl rfl, k_pre hP hD hS hE hA⟩ rfl rfl hl.1 rfl (lv_room (Nat.le_of_ble_eq_true rfl)) dL_looked_19 ⟨Nat.zero_le _, Nat.zero_le _⟩) hD hS hA (fun H locs hP hD hS => ?_)
  refine lv_bipush (v := 8) hx hb dL_looked_22 (by decide) ?_
  obtain ⟨hg24, hf⟩ := gd_s hf
  refine lv_icmp_ne (tgt := 45) hx hb dL_looked_24 (by decide) (fun c24 => absurd hg24 c24) (fun c24 => ?_)
  refine lv_aload_n hx hb dL_looked_27 rfl (lv_at hl 0 rfl) ?_
  refine lv_iconst (v := 3) hx hb dL_looked_28 (by decide) ?_
  refine lv_aload_n hx hb dL_looked_29 rfl (lv_at hl 1 rfl) ?_
  obtain ⟨r30, h30r, hf⟩ := o_bs hf
  refine k_goi (va_runS (As := [.ref (sa 10)]) (rest := [.int 3, .ref (q 0)]) ⟨hx, hb, hml, hown, hts⟩ (zL_sound l D cy sa (WX q cy r19.2 ++ rest) H.size   r30  h30r) (va_cwS 1 hts (gB_S wB261 wB262 wB81 wB263) rfl rfl rfl (by decide +kernel) ⟨Nat.le_of_ble_eq_true rfl, Nat.le_of_ble_eq_true rfl⟩) ⟨kP.blind, k_pre hP hD hS hE hA⟩ rfl rfl hl.1 rfl (lv_room (Nat.le_of_ble_eq_true rfl)) dL_looked_30 ⟨Nat.zero_le _, Nat.zero_le _⟩) hD hS hA (fun H locs hP hD hS => ?_)
  obtain ⟨r33, h33r, hf⟩ := o_bs hf
  refine k_goi (va_runV (As := [.int 3, .int r30]) (rest := []) ⟨hx, hb, hml, hown, hts⟩ (zX5_put l D cy sa q rest H.size r19.2 3 r30 r33 h33r) (cwV 2 hts (gB_V wB132 wB133 wB134 wB2 wB135) rfl rfl rfl (by decide +kernel) ⟨Nat.le_of_ble_eq_true rfl, Nat.le_of_ble_eq_true rfl⟩) ⟨kP.blind, k_recv hE hP (ci := 5) (q0 := 0) rfl rfl, k_pre hP hD hS hE hA⟩ rfl rfl hl.1 rfl (lv_room (Nat.le_of_ble_eq_true rfl)) dL_looked_33 ⟨Nat.zero_le _, Nat.zero_le _⟩) hD hS hA (fun H locs hP hD hS => ?_)
  refine lv_bipush (v := 9) hx hb dL_looked_36 (by decide) ?_
  obtain ⟨hg38, hf⟩ := gd_s hf
  refine lv_icmp_ne (tgt := 45) hx hb dL_looked_38 (by decide) (fun c38 => absurd hg38 c38) (fun c38 => ?_)
  refine lv_iconst (v := 1) hx hb dL_looked_41 (by decide) ?_
  refine lv_goto (tgt := 46) hx hb dL_looked_42 (by decide) ?_
  refine lv_istore_n (lv' := [(2, .int 1), (0, .ref (q 0)), (1, .ref (sa 10))]) hx hb dL_looked_46 rfl hl (by decide) rfl (fun ls hl => ?_)
  refine lv_iconst (v := 0) hx hb dL_looked_47 (by decide) ?_
  refine lv_istore_n (lv' := [(3, .int 0), (2, .int 1), (0, .ref (q 0)), (1, .ref (sa 10))]) hx hb dL_looked_48 rfl hl (by decide) rfl (fun ls hl => ?_)
  have L49 : ∀ (n49v : Nat) (s49 : Int32 × KS) (e49 : KS), lpO (mL_looked_s49 sa) n49v s49 = some e49 → ∀ (H : Heap) (locs : List Loc) (ls : Array Slot), va_P D vwCl (WX q cy s49.2 ++ rest) H → va_D A (WX q cy s49.2 ++ rest) → va_S A s.heap H locs → lv_has ls 4 [(0, .ref (q 0)), (1, .ref (sa 10)), (2, .int 1), (3, .int s49.1)] → (∀ (H : Heap) (locs : List Loc) (ls : Array Slot), va_P D vwCl (WX q cy e49 ++ rest) H → va_D A (WX q cy e49 ++ rest) → va_S A s.heap H locs → lv_has ls 4 [(0, .ref (q 0)), (1, .ref (sa 10)), (2, .int 1)] → W p l e rmL_looked s m ([.ref (q 0), .ref (sa 10)] : List Value).toArray below meth c H locs 0 0 (MQ below (kQi D A res.1 (WX q cy res.2 ++ rest)) ([.ref (q 0), .ref (sa 10)] : List Value).toArray s 0 0 A) (F0 m 85 ls [])) → W p l e rmL_looked s m ([.ref (q 0), .ref (sa 10)] : List Value).toArray below meth c H locs 0 0 (MQ below (kQi D A res.1 (WX q cy res.2 ++ rest)) ([.ref (q 0), .ref (sa 10)] : List Value).toArray s 0 0 A) (F0 m 49 ls []) := by
    intro n49v
    induction n49v with
    | zero => intro s49 e49 h; exact (lpO_z h).elim
    | succ n49v ih49 =>
      intro s49 e49 h49z H locs ls hP hD hS hl K49_0
      obtain ⟨x49, hf, h49z⟩ := lpO_s h49z
      unfold mL_looked_s49 at hf
      refine lv_iload_n hx hb dL_looked_49 rfl (lv_at hl 3 rfl) ?_
      refine lv_bipush (v := 7) hx hb dL_looked_50 (by decide) ?_
      refine lv_icmp_ge (tgt := 85) hx hb dL_looked_52 (by decide) (fun c52 => ?_) (fun c52 => ?_)
      · have hf := o_ip c52 hf
        obtain rfl := o_ret hf
        obtain rfl := lpK_l h49z
        exact K49_0 _ _ _ hP hD hS (lv_sub hl [0, 1, 2] rfl)
      · have hf := o_in c52 hf
        refine lv_iload_n hx hb dL_looked_55 rfl (lv_at hl 2 rfl) ?_
        refine lv_if_eq (tgt := 77) hx hb dL_looked_56 (by decide) (fun c56 => absurd c56 (by decide)) (fun c56 => ?_)
        refine lv_aload_n hx hb dL_looked_59 rfl (lv_at hl 0 rfl) ?_
        refine lv_iload_n hx hb dL_looked_60 rfl (lv_at hl 3 rfl) ?_
        refine lv_aload_n hx hb dL_looked_61 rfl (lv_at hl 1 rfl) ?_
        refine lv_iload_n hx hb dL_looked_62 rfl (lv_at hl 3 rfl) ?_
        obtain ⟨r63, h63r, hf⟩ := o_bs hf
        refine k_goi (va_runS (As := [.ref (sa 10), .int s49.1]) (rest := [.int s49.1, .ref (q 0)]) ⟨hx, hb, hml, hown, hts⟩ (zL_prior l D cy sa (WX q cy s49.2 ++ rest) H.size s49.1  r63  h63r) (va_cwS 2 hts (gB_S wB264 wB265 wB81 wB266) rfl rfl rfl (by decide +kernel) ⟨Nat.le_of_ble_eq_true rfl, Nat.le_of_ble_eq_true rfl⟩) ⟨kP.blind, k_pre hP hD hS hE hA⟩ rfl rfl hl.1 rfl (lv_room (Nat.le_of_ble_eq_true rfl)) dL_looked_63 ⟨Nat.zero_le _, Nat.zero_le _⟩) hD hS hA (fun H locs hP hD hS => ?_)
        obtain ⟨r66, h66r, hf⟩ := o_bs hf
        refine k_goi (va_runV (As := [.int s49.1, .int r63]) (rest := []) ⟨hx, hb, hml, hown, hts⟩ (zX5_prior l D cy sa q rest H.size s49.2 s49.1 r63 r66 h66r) (cwV 2 hts (gB_V wB267 wB268 wB269 wB2 wB270) rfl rfl rfl (by decide +kernel) ⟨Nat.le_of_ble_eq_true rfl, Nat.le_of_ble_eq_true rfl⟩) ⟨kP.blind, k_recv hE hP (ci := 5) (q0 := 0) rfl rfl, k_pre hP hD hS hE hA⟩ rfl rfl hl.1 rfl (lv_room (Nat.le_of_ble_eq_true rfl)) dL_looked_66 ⟨Nat.zero_le _, Nat.zero_le _⟩) hD hS hA (fun H locs hP hD hS => ?_)
        refine lv_iconst (v := 1) hx hb dL_looked_69 (by decide) ?_
        obtain ⟨hg70, hf⟩ := gd_s hf
        refine lv_icmp_ne (tgt := 77) hx hb dL_looked_70 (by decide) (fun c70 => absurd hg70 c70) (fun c70 => ?_)
        refine lv_iconst (v := 1) hx hb dL_looked_73 (by decide) ?_
        refine lv_goto (tgt := 78) hx hb dL_looked_74 (by decide) ?_
        refine lv_istore_n (lv' := [(2, .int 1), (0, .ref (q 0)), (1, .ref (sa 10)), (3, .int s49.1)]) hx hb dL_looked_78 rfl hl (by decide) rfl (fun ls hl => ?_)
        refine lv_iinc (v := (s49.1 + 1)) (lv' := [(3, .int (s49.1 + 1)), (2, .int 1), (0, .ref (q 0)), (1, .ref (sa 10))]) hx hb dL_looked_79 hl (k := 3) rfl (by rfl) (by decide) rfl (fun ls hl => ?_)
        refine lv_goto (tgt := 49) hx hb dL_looked_82 (by decide) ?_
        obtain rfl := o_ret hf
        obtain ⟨gw, hgw⟩ : ∃ gw : KS, gw = r66.2 := ⟨_, rfl⟩
        rw [← hgw] at hP hD h49z
        exact ih49 _ _ (lpK_r h49z) _ _ _ hP hD hS (lv_sub hl [2, 3, 1, 0] rfl) K49_0
  obtain ⟨e49, h49q, hf⟩ := o_bs hf
  obtain ⟨n49v, h49q⟩ := lpF_ex h49q
  refine L49 n49v _ e49 h49q _ _ _ hP hD hS (lv_sub hl [2, 3, 1, 0] rfl) ?_
  intro H locs ls hP hD hS hl
  refine lv_iconst (v := 0) hx hb dL_looked_85 (by decide) ?_
  refine lv_istore_n (lv' := [(3, .int 0), (0, .ref (q 0)), (1, .ref (sa 10)), (2, .int 1)]) hx hb dL_looked_86 rfl hl (by decide) rfl (fun ls hl => ?_)
  have L87 : ∀ (n87v : Nat) (s87 : Int32 × KS) (e87 : KS), lpO (mL_looked_s87 sa) n87v s87 = some e87 → ∀ (H : Heap) (locs : List Loc) (ls : Array Slot), va_P D vwCl (WX q cy s87.2 ++ rest) H → va_D A (WX q cy s87.2 ++ rest) → va_S A s.heap H locs → lv_has ls 4 [(0, .ref (q 0)), (1, .ref (sa 10)), (2, .int 1), (3, .int s87.1)] → (∀ (H : Heap) (locs : List Loc) (ls : Array Slot), va_P D vwCl (WX q cy e87 ++ rest) H → va_D A (WX q cy e87 ++ rest) → va_S A s.heap H locs → lv_has ls 4 [(2, .int 1)] → W p l e rmL_looked s m ([.ref (q 0), .ref (sa 10)] : List Value).toArray below meth c H locs 0 0 (MQ below (kQi D A res.1 (WX q cy res.2 ++ rest)) ([.ref (q 0), .ref (sa 10)] : List Value).toArray s 0 0 A) (F0 m 143 ls [])) → W p l e rmL_looked s m ([.ref (q 0), .ref (sa 10)] : List Value).toArray below meth c H locs 0 0 (MQ below (kQi D A res.1 (WX q cy res.2 ++ rest)) ([.ref (q 0), .ref (sa 10)] : List Value).toArray s 0 0 A) (F0 m 87 ls []) := by
    intro n87v
    induction n87v with
    | zero => intro s87 e87 h; exact (lpO_z h).elim
    | succ n87v ih87 =>
      intro s87 e87 h87z H locs ls hP hD hS hl K87_0
      obtain ⟨x87, hf, h87z⟩ := lpO_s h87z
      unfold mL_looked_s87 at hf
      refine lv_iload_n hx hb dL_looked_87 rfl (lv_at hl 3 rfl) ?_
      refine lv_aload_n hx hb dL_looked_88 rfl (lv_at hl 1 rfl) ?_
      obtain ⟨r89, h89r, hf⟩ := o_bs hf
      refine k_goi (va_runS (As := [.ref (sa 10)]) (rest := [.int s87.1]) ⟨hx, hb, hml, hown, hts⟩ (zL_looks l D cy sa (WX q cy s87.2 ++ rest) H.size   r89  h89r) (va_cwS 1 hts (gB_S wB272 wB273 wB81 wB274) rfl rfl rfl (by decide +kernel) ⟨Nat.le_of_ble_eq_true rfl, Nat.le_of_ble_eq_true rfl⟩) ⟨kP.blind, k_pre hP hD hS hE hA⟩ rfl rfl hl.1 rfl (lv_room (Nat.le_of_ble_eq_true rfl)) dL_looked_89 ⟨Nat.zero_le _, Nat.zero_le _⟩) hD hS hA (fun H locs hP hD hS => ?_)
      refine lv_icmp_ge (tgt := 143) hx hb dL_looked_92 (by decide) (fun c92 => ?_) (fun c92 => ?_)
      · have hf := o_ip c92 hf
        obtain rfl := o_ret hf
        obtain rfl := lpK_l h87z
        exact K87_0 _ _ _ hP hD hS (lv_sub hl [2] rfl)
      · have hf := o_in c92 hf
        refine lv_iload_n hx hb dL_looked_95 rfl (lv_at hl 2 rfl) ?_
        refine lv_if_eq (tgt := 135) hx hb dL_looked_96 (by decide) (fun c96 => absurd c96 (by decide)) (fun c96 => ?_)
        refine lv_aload_n hx hb dL_looked_99 rfl (lv_at hl 0 rfl) ?_
        refine lv_aload_n hx hb dL_looked_100 rfl (lv_at hl 1 rfl) ?_
        refine lv_iload_n hx hb dL_looked_101 rfl (lv_at hl 3 rfl) ?_
        refine lv_iconst (v := 0) hx hb dL_looked_102 (by decide) ?_
        obtain ⟨r103, h103r, hf⟩ := o_bs hf
        refine k_goi (va_runS (As := [.ref (sa 10), .int s87.1, .int 0]) (rest := [.ref (q 0)]) ⟨hx, hb, hml, hown, hts⟩ (zL_look l D cy sa (WX q cy s87.2 ++ rest) H.size s87.1 0  r103  h103r) (va_cwS 3 hts (gB_S wB275 wB276 wB81 wB277) rfl rfl rfl (by decide +kernel) ⟨Nat.le_of_ble_eq_true rfl, Nat.le_of_ble_eq_true rfl⟩) ⟨kP.blind, k_pre hP hD hS hE hA⟩ rfl rfl hl.1 rfl (lv_room (Nat.le_of_ble_eq_true rfl)) dL_looked_103 ⟨Nat.zero_le _, Nat.zero_le _⟩) hD hS hA (fun H locs hP hD hS => ?_)
        refine lv_aload_n hx hb dL_looked_106 rfl (lv_at hl 1 rfl) ?_
        refine lv_iload_n hx hb dL_looked_107 rfl (lv_at hl 3 rfl) ?_
        refine lv_iconst (v := 1) hx hb dL_looked_108 (by decide) ?_
        obtain ⟨r109, h109r, hf⟩ := o_bs hf
        refine k_goi (va_runS (As := [.ref (sa 10), .int s87.1, .int 1]) (rest := [.int r103, .ref (q 0)]) ⟨hx, hb, hml, hown, hts⟩ (zL_look l D cy sa (WX q cy s87.2 ++ rest) H.size s87.1 1  r109  h109r) (va_cwS 3 hts (gB_S wB275 wB276 wB81 wB277) rfl rfl rfl (by decide +kernel) ⟨Nat.le_of_ble_eq_true rfl, Nat.le_of_ble_eq_true rfl⟩) ⟨kP.blind, k_pre hP hD hS hE hA⟩ rfl rfl hl.1 rfl (lv_room (Nat.le_of_ble_eq_true rfl)) dL_looked_109 ⟨Nat.zero_le _, Nat.zero_le _⟩) hD hS hA (fun H locs hP hD hS => ?_)
        refine lv_aload_n hx hb dL_looked_112 rfl (lv_at hl 1 rfl) ?_
        refine lv_iload_n hx hb dL_looked_113 rfl (lv_at hl 3 rfl) ?_
        refine lv_iconst (v := 2) hx hb dL_looked_114 (by decide) ?_
        obtain ⟨r115, h115r, hf⟩ := o_bs hf
        refine k_goi (va_runS (As := [.ref (sa 10), .int s87.1, .int 2]) (rest := [.int r109, .int r103, .ref (q 0)]) ⟨hx, hb, hml, hown, hts⟩ (zL_look l D cy sa (WX q cy s87.2 ++ rest) H.size s87.1 2  r115  h115r) (va_cwS 3 hts (gB_S wB275 wB276 wB81 wB277) rfl rfl rfl (by decide +kernel) ⟨Nat.le_of_ble_eq_true rfl, Nat.le_of_ble_eq_true rfl⟩) ⟨kP.blind, k_pre hP hD hS hE hA⟩ rfl rfl hl.1 rfl (lv_room (Nat.le_of_ble_eq_true rfl)) dL_looked_115 ⟨Nat.zero_le _, Nat.zero_le _⟩) hD hS hA (fun H locs hP hD hS => ?_)
        refine lv_aload_n hx hb dL_looked_118 rfl (lv_at hl 1 rfl) ?_
        refine lv_iload_n hx hb dL_looked_119 rfl (lv_at hl 3 rfl) ?_
        refine lv_iconst (v := 3) hx hb dL_looked_120 (by decide) ?_
        obtain ⟨r121, h121r, hf⟩ := o_bs hf
        refine k_goi (va_runS (As := [.ref (sa 10), .int s87.1, .int 3]) (rest := [.int r115, .int r109, .int r103, .ref (q 0)]) ⟨hx, hb, hml, hown, hts⟩ (zL_look l D cy sa (WX q cy s87.2 ++ rest) H.size s87.1 3  r121  h121r) (va_cwS 3 hts (gB_S wB275 wB276 wB81 wB277) rfl rfl rfl (by decide +kernel) ⟨Nat.le_of_ble_eq_true rfl, Nat.le_of_ble_eq_true rfl⟩) ⟨kP.blind, k_pre hP hD hS hE hA⟩ rfl rfl hl.1 rfl (lv_room (Nat.le_of_ble_eq_true rfl)) dL_looked_121 ⟨Nat.zero_le _, Nat.zero_le _⟩) hD hS hA (fun H locs hP hD hS => ?_)
        obtain ⟨r124, h124r, hf⟩ := o_bs hf
        refine k_goi (va_runV (As := [.int r103, .int r109, .int r115, .int r121]) (rest := []) ⟨hx, hb, hml, hown, hts⟩ (zX5_look l D cy sa q rest H.size s87.2 r103 r109 r115 r121 r124 h124r) (cwV 4 hts (gB_V wB278 wB279 wB280 wB2 wB281) rfl rfl rfl (by decide +kernel) ⟨Nat.le_of_ble_eq_true rfl, Nat.le_of_ble_eq_true rfl⟩) ⟨kP.blind, k_recv hE hP (ci := 5) (q0 := 0) rfl rfl, k_pre hP hD hS hE hA⟩ rfl rfl hl.1 rfl (lv_room (Nat.le_of_ble_eq_true rfl)) dL_looked_124 ⟨Nat.zero_le _, Nat.zero_le _⟩) hD hS hA (fun H locs hP hD hS => ?_)
        refine lv_iload_n hx hb dL_looked_127 rfl (lv_at hl 3 rfl) ?_
        obtain ⟨hg128, hf⟩ := gd_s hf
        refine lv_icmp_ne (tgt := 135) hx hb dL_looked_128 (by decide) (fun c128 => absurd hg128 c128) (fun c128 => ?_)
        refine lv_iconst (v := 1) hx hb dL_looked_131 (by decide) ?_
        refine lv_goto (tgt := 136) hx hb dL_looked_132 (by decide) ?_
        refine lv_istore_n (lv' := [(2, .int 1), (0, .ref (q 0)), (1, .ref (sa 10)), (3, .int s87.1)]) hx hb dL_looked_136 rfl hl (by decide) rfl (fun ls hl => ?_)
        refine lv_iinc (v := (s87.1 + 1)) (lv' := [(3, .int (s87.1 + 1)), (2, .int 1), (0, .ref (q 0)), (1, .ref (sa 10))]) hx hb dL_looked_137 hl (k := 3) rfl (by rfl) (by decide) rfl (fun ls hl => ?_)
        refine lv_goto (tgt := 87) hx hb dL_looked_140 (by decide) ?_
        obtain rfl := o_ret hf
        obtain ⟨gw, hgw⟩ : ∃ gw : KS, gw = r124.2 := ⟨_, rfl⟩
        rw [← hgw] at hP hD h87z
        exact ih87 _ _ (lpK_r h87z) _ _ _ hP hD hS (lv_sub hl [2, 3, 1, 0] rfl) K87_0
  obtain ⟨e87, h87q, hf⟩ := o_bs hf
  obtain ⟨n87v, h87q⟩ := lpF_ex h87q
  refine L87 n87v _ e87 h87q _ _ _ hP hD hS (lv_sub hl [1, 2, 3, 0] rfl) ?_
  intro H locs ls hP hD hS hl
  refine lv_iload_n hx hb dL_looked_143 rfl (lv_at hl 0 rfl) ?_
  obtain rfl := o_ret hf
  exact k_zret (v := 1) hx hb hr hP hD hS rfl (Nat.zero_le _) (Nat.zero_le _) hlocks dL_looked_144
