noncomputable def mX5_isSetting (a0 : Int32) (a1 : Int32) : Option (Int32) :=
  if a0 < 0 then
  (some 0)
  else
  (if 4 ≤ a0 then
  (some 0)
  else
  (if 4 ≤ a0 then
  (some 0)
  else
  (gd (inb a0 4) (if a1 < ([(0 : Int32), 1, 1, 0].getD (a0.toNatClampNeg) 0) then
  (some 0)
  else
  (gd (inb a0 4) (if ([(100 : Int32), 40, 9, 99].getD (a0.toNatClampNeg) 0) < a1 then
  (some 0)
  else
  (some 1)))))))
abbrev rmX5_isSetting : Room := { frames := 0, cells := 0, slots := 0, locals := 0 }
set_option maxRecDepth 100000 in
set_option maxHeartbeats 4000000 in
theorem zX5_isSetting (l : Launch) (D : va_G) (cy : Nat → ClassId) (sa : Nat → Nat) (ws : va_W) (sz : Nat) (a0 : Int32) (a1 : Int32) (res : Int32) (hf : mX5_isSetting a0 a1 = some res) : kMi l yX5_isSetting (wsK yX5_isSetting cX5_isSetting 3 (some .boolean)) rmX5_isSetting D cy sa (ws) sz [.int a0, .int a1] res (ws) 0 0 := by
  refine kM_of (Qc := fun A => kQi D A res (ws)) (cc := cX5_isSetting) (maxL := 3) (ret := (some .boolean)) (by decide) (Nat.le_of_ble_eq_true rfl) ?_
  intro p e s m below meth c A hx hb hml hr hts hown hlocks hin hA hP hD hS hE hsz ls hl
  have hown : s.vm.findClass RX5 = some m.cls := hown
  obtain ⟨H, hH0⟩ : ∃ H, H = s.heap := ⟨_, rfl⟩
  obtain ⟨locs, hlocs0⟩ : ∃ locs : List Loc, locs = [] := ⟨_, rfl⟩
  have hP : va_P D vwCl (ws) H := by rw [hH0]; exact hP
  have hS : va_S A s.heap H locs := by rw [hH0, hlocs0]; exact hS
  have hl : lv_has ls 3 [(0, .int a0), (1, .int a1)] := hl
  suffices hgoal : W p l e rmX5_isSetting s m ([.int a0, .int a1] : List Value).toArray below meth c H locs 0 0 (MQ below (kQi D A res (ws)) ([.int a0, .int a1] : List Value).toArray s 0 0 A) (F0 m 0 ls []) by rw [hH0, hlocs0] at hgoal; exact hgoal
  clear hH0 hlocs0
  unfold mX5_isSetting at hf
  refine lv_iload_n hx hb dX5_isSetting_0 rfl (lv_at hl 0 rfl) ?_
  refine lv_if_lt (tgt := 24) hx hb dX5_isSetting_1 (by decide) (fun c1 => ?_) (fun c1 => ?_)
  · have hf := o_ip c1 hf
    refine lv_iconst (v := 0) hx hb dX5_isSetting_24 (by decide) ?_
    refine lv_istore_n (lv' := [(2, .int 0), (0, .int a0), (1, .int a1)]) hx hb dX5_isSetting_25 rfl hl (by decide) rfl (fun ls hl => ?_)
    refine lv_iload_n hx hb dX5_isSetting_26 rfl (lv_at hl 0 rfl) ?_
    refine lv_if_eq (tgt := 52) hx hb dX5_isSetting_27 (by decide) (fun c27 => ?_) (fun c27 => absurd c27 (by decide))
    refine lv_iconst (v := 0) hx hb dX5_isSetting_52 (by decide) ?_
    obtain rfl := o_ret hf
    exact k_zret (v := 0) hx hb hr hP hD hS rfl (Nat.zero_le _) (Nat.zero_le _) hlocks dX5_isSetting_53
  · have hf := o_in c1 hf
    refine lv_iload_n hx hb dX5_isSetting_4 rfl (lv_at hl 0 rfl) ?_
    refine va_gets hx hb hE.2.2.2.2.1 hS hown (hts _ wB140) (fun _ h9 => h9) dX5_isSetting_5 ?_
    refine va_tlen (v := 4) hx hb hE.2.2.2.2.2.1 hS rfl dX5_isSetting_8 ?_
    refine lv_icmp_ge (tgt := 24) hx hb dX5_isSetting_9 (by decide) (fun c9 => ?_) (fun c9 => ?_)
    · have hf := o_ip c9 hf
      refine lv_iconst (v := 0) hx hb dX5_isSetting_24 (by decide) ?_
      refine lv_istore_n (lv' := [(2, .int 0), (0, .int a0), (1, .int a1)]) hx hb dX5_isSetting_25 rfl hl (by decide) rfl (fun ls hl => ?_)
      refine lv_iload_n hx hb dX5_isSetting_26 rfl (lv_at hl 0 rfl) ?_
      refine lv_if_eq (tgt := 52) hx hb dX5_isSetting_27 (by decide) (fun c27 => ?_) (fun c27 => absurd c27 (by decide))
      refine lv_iconst (v := 0) hx hb dX5_isSetting_52 (by decide) ?_
      obtain rfl := o_ret hf
      exact k_zret (v := 0) hx hb hr hP hD hS rfl (Nat.zero_le _) (Nat.zero_le _) hlocks dX5_isSetting_53
    · have hf := o_in c9 hf
      refine lv_iload_n hx hb dX5_isSetting_12 rfl (lv_at hl 0 rfl) ?_
      refine va_gets hx hb hE.2.2.2.2.2.2.1 hS hown (hts _ wB141) (fun _ h9 => h9) dX5_isSetting_13 ?_
      refine va_tlen (v := 4) hx hb hE.2.2.2.2.2.2.2.1 hS rfl dX5_isSetting_16 ?_
      refine lv_icmp_ge (tgt := 24) hx hb dX5_isSetting_17 (by decide) (fun c17 => ?_) (fun c17 => ?_)
      · have hf := o_ip c17 hf
        refine lv_iconst (v := 0) hx hb dX5_isSetting_24 (by decide) ?_
        refine lv_istore_n (lv' := [(2, .int 0), (0, .int a0), (1, .int a1)]) hx hb dX5_isSetting_25 rfl hl (by decide) rfl (fun ls hl => ?_)
        refine lv_iload_n hx hb dX5_isSetting_26 rfl (lv_at hl 0 rfl) ?_
        refine lv_if_eq (tgt := 52) hx hb dX5_isSetting_27 (by decide) (fun c27 => ?_) (fun c27 => absurd c27 (by decide))
        refine lv_iconst (v := 0) hx hb dX5_isSetting_52 (by decide) ?_
        obtain rfl := o_ret hf
        exact k_zret (v := 0) hx hb hr hP hD hS rfl (Nat.zero_le _) (Nat.zero_le _) hlocks dX5_isSetting_53
      · have hf := o_in c17 hf
        refine lv_iconst (v := 1) hx hb dX5_isSetting_20 (by decide) ?_
        refine lv_goto (tgt := 25) hx hb dX5_isSetting_21 (by decide) ?_
        refine lv_istore_n (lv' := [(2, .int 1), (0, .int a0), (1, .int a1)]) hx hb dX5_isSetting_25 rfl hl (by decide) rfl (fun ls hl => ?_)
        refine lv_iload_n hx hb dX5_isSetting_26 rfl (lv_at hl 0 rfl) ?_
        refine lv_if_eq (tgt := 52) hx hb dX5_isSetting_27 (by decide) (fun c27 => absurd c27 (by decide)) (fun c27 => ?_)
        refine lv_iload_n hx hb dX5_isSetting_30 rfl (lv_at hl 2 rfl) ?_
        refine va_gets hx hb hE.2.2.2.2.1 hS hown (hts _ wB140) (fun _ h9 => h9) dX5_isSetting_31 ?_
        refine lv_iload_n hx hb dX5_isSetting_34 rfl (lv_at hl 1 rfl) ?_
        obtain ⟨hg35, hf⟩ := gd_s hf
        refine va_ti (v := .int ([(0 : Int32), 1, 1, 0].getD (a0.toNatClampNeg) 0)) hx hb hE.2.2.2.2.2.1 hS hg35 rfl dX5_isSetting_35 ?_
        refine lv_icmp_lt (tgt := 52) hx hb dX5_isSetting_36 (by decide) (fun c36 => ?_) (fun c36 => ?_)
        · have hf := o_ip c36 hf
          refine lv_iconst (v := 0) hx hb dX5_isSetting_52 (by decide) ?_
          obtain rfl := o_ret hf
          exact k_zret (v := 0) hx hb hr hP hD hS rfl (Nat.zero_le _) (Nat.zero_le _) hlocks dX5_isSetting_53
        · have hf := o_in c36 hf
          refine lv_iload_n hx hb dX5_isSetting_39 rfl (lv_at hl 2 rfl) ?_
          refine va_gets hx hb hE.2.2.2.2.2.2.1 hS hown (hts _ wB141) (fun _ h9 => h9) dX5_isSetting_40 ?_
          refine lv_iload_n hx hb dX5_isSetting_43 rfl (lv_at hl 1 rfl) ?_
          obtain ⟨hg44, hf⟩ := gd_s hf
          refine va_ti (v := .int ([(100 : Int32), 40, 9, 99].getD (a0.toNatClampNeg) 0)) hx hb hE.2.2.2.2.2.2.2.1 hS hg44 rfl dX5_isSetting_44 ?_
          refine lv_icmp_gt (tgt := 52) hx hb dX5_isSetting_45 (by decide) (fun c45 => ?_) (fun c45 => ?_)
          · have hf := o_ip c45 hf
            refine lv_iconst (v := 0) hx hb dX5_isSetting_52 (by decide) ?_
            obtain rfl := o_ret hf
            exact k_zret (v := 0) hx hb hr hP hD hS rfl (Nat.zero_le _) (Nat.zero_le _) hlocks dX5_isSetting_53
          · have hf := o_in c45 hf
            refine lv_iconst (v := 1) hx hb dX5_isSetting_48 (by decide) ?_
            refine lv_goto (tgt := 53) hx hb dX5_isSetting_49 (by decide) ?_
            obtain rfl := o_ret hf
            exact k_zret (v := 1) hx hb hr hP hD hS rfl (Nat.zero_le _) (Nat.zero_le _) hlocks dX5_isSetting_53
noncomputable def mX5_weighGuesses_s27  (s27 : Int32 × KS) : Option ((KS) ⊕ (Int32 × KS)) :=
  if (gI s27.2 3) ≤ s27.1 then
  (some (.inl s27.2))
  else
  ((mX5_at 32 (gR s27.2 5) (s27.1 * 4)).bind fun r50 =>
  (mX0_has s27.2 r50).bind fun r59 =>
  if r59 = 0 then
  (some (.inr ((s27.1 + 1), s27.2)))
  else
  ((mX5_at 32 (gR s27.2 5) ((s27.1 * 4) + 1)).bind fun r80 =>
  (mX0_bring s27.2 r50 r80).bind fun r90 =>
  (mX5_at 32 (gR r90 5) ((s27.1 * 4) + 2)).bind fun r107 =>
  (mX2_addUp r90 r107).bind fun r110 =>
  (mX5_at 32 (gR r110 5) ((s27.1 * 4) + 3)).bind fun r127 =>
  (mX5_at 4 (gR r110 2) 1).bind fun r138 =>
  (mX5_at 4 (gR r110 2) 2).bind fun r149 =>
  (mX2_weigh r110 r127 r138 r149).bind fun r152 =>
  some (.inr ((s27.1 + 1), r152))))
noncomputable def mX5_weighGuesses (u : KS) : Option (KS) :=
  (mX5_at 4 (gR u 2) 3).bind fun r12 =>
  (mX2_begin u r12).bind fun r22 =>
  (lpF mX5_weighGuesses_s27 (0, r22)).bind fun e27 =>
  (mX2_total e27).bind fun r165 =>
  some r165
abbrev rmX5_weighGuesses : Room := { frames := 4, cells := 0, slots := 0, locals := 93 }
set_option maxRecDepth 100000 in
set_option maxHeartbeats 4000000 in
theorem zX5_weighGuesses (l : Launch) (D : va_G) (cy : Nat → ClassId) (sa : Nat → Nat) (q : Nat → Nat) (rest : va_W) (sz : Nat) (u : KS) (res : KS) (hf : mX5_weighGuesses u = some res) : kMv l yX5_weighGuesses (wsK yX5_weighGuesses cX5_weighGuesses 4 none) rmX5_weighGuesses D cy sa (WX q cy u ++ rest) sz [.ref (q 0)] (WX q cy res ++ rest) 0 0 := by
  refine kM_of (Qc := fun A => kQv D A (WX q cy res ++ rest)) (cc := cX5_weighGuesses) (maxL := 4) (ret := none) (by decide) (Nat.le_of_ble_eq_true rfl) ?_
  intro p e s m below meth c A hx hb hml hr hts hown hlocks hin hA hP hD hS hE hsz ls hl
  have hown : s.vm.findClass RX5 = some m.cls := hown
  obtain ⟨H, hH0⟩ : ∃ H, H = s.heap := ⟨_, rfl⟩
  obtain ⟨locs, hlocs0⟩ : ∃ locs : List Loc, locs = [] := ⟨_, rfl⟩
  have hP : va_P D vwCl (WX q cy u ++ rest) H := by rw [hH0]; exact hP
  have hS : va_S A s.heap H locs := by rw [hH0, hlocs0]; exact hS
  have hl : lv_has ls 4 [(0, .ref (q 0))] := hl
  suffices hgoal : W p l e rmX5_weighGuesses s m ([.ref (q 0)] : List Value).toArray below meth c H locs 0 0 (MQ below (kQv D A (WX q cy res ++ rest)) ([.ref (q 0)] : List Value).toArray s 0 0 A) (F0 m 0 ls []) by rw [hH0, hlocs0] at hgoal; exact hgoal
  clear hH0 hlocs0
  unfold mX5_weighGuesses at hf
  refine lv_aload_n hx hb dX5_weighGuesses_0 rfl (lv_at hl 0 rfl) ?_
  refine va_get (ci := 5) (v := .ref (q 15)) (C := RX5) (T := TX5) (N := 9) hx hb hts inlX5 hown hE.1 hP 0 rfl rfl 3 (by decide) (hts _ wB25) (fun _ h9 => h9) rfl dX5_weighGuesses_1 ?_
  refine lv_aload_n hx hb dX5_weighGuesses_4 rfl (lv_at hl 0 rfl) ?_
  refine va_get (ci := 5) (v := .ref (q 3)) (C := RX5) (T := TX5) (N := 9) hx hb hts inlX5 hown hE.1 hP 0 rfl rfl 0 (by decide) (hts _ wB16) (fun _ h9 => h9) rfl dX5_weighGuesses_5 ?_
  refine va_get (ci := 3) (v := .ref (q 5)) (C := RX3) (T := TX3) (N := 9) hx hb hts inlX3 hown hE.1 hP 3 rfl rfl 2 (by decide) (hts _ wB136) (fun _ h9 => h9) rfl dX5_weighGuesses_8 ?_
  refine lv_iconst (v := 3) hx hb dX5_weighGuesses_11 (by decide) ?_
  obtain ⟨r12, h12r, hf⟩ := o_bs hf
  refine k_goi (va_runS (As := [.ref (q 5), .int 3]) (rest := [.ref (q 15)]) ⟨hx, hb, hml, hown, hts⟩ (zX5_at l D cy sa (WX q cy u ++ rest) H.size 5 (q 5) 4 (gR u 2) 3 r12 rfl h12r) (va_cwS 2 hts (gB_S wB110 wB111 wB2 wB112) rfl rfl rfl (by decide +kernel) ⟨Nat.le_of_ble_eq_true rfl, Nat.le_of_ble_eq_true rfl⟩) ⟨kP.blind, k_pre hP hD hS hE hA⟩ rfl rfl hl.1 rfl (lv_room (Nat.le_of_ble_eq_true rfl)) dX5_weighGuesses_12 ⟨Nat.zero_le _, Nat.zero_le _⟩) hD hS hA (fun H locs hP hD hS => ?_)
  refine lv_aload_n hx hb dX5_weighGuesses_15 rfl (lv_at hl 0 rfl) ?_
  refine va_get (ci := 5) (v := .ref (q 3)) (C := RX5) (T := TX5) (N := 9) hx hb hts inlX5 hown hE.1 hP 0 rfl rfl 0 (by decide) (hts _ wB16) (fun _ h9 => h9) rfl dX5_weighGuesses_16 ?_
  refine va_get (ci := 3) (v := .ref (q 6)) (C := RX3) (T := TX3) (N := 9) hx hb hts inlX3 hown hE.1 hP 3 rfl rfl 3 (by decide) (hts _ wB271) (fun _ h9 => h9) rfl dX5_weighGuesses_19 ?_
  obtain ⟨r22, h22r, hf⟩ := o_bs hf
  refine k_gov (va_runV (As := [.int r12, .ref (q 6)]) (rest := []) ⟨hx, hb, hml, hown, hts⟩ (zX2_begin l D cy sa q rest H.size u r12 r22 h22r) (cwV 2 hts (gB_V wB378 wB379 wB380 wB24 wB381) rfl rfl rfl (by decide +kernel) ⟨Nat.le_of_ble_eq_true rfl, Nat.le_of_ble_eq_true rfl⟩) ⟨kP.blind, k_recv hE hP (ci := 2) (q0 := 15) rfl rfl, k_pre hP hD hS hE hA⟩ rfl rfl hl.1 rfl (lv_room (Nat.le_of_ble_eq_true rfl)) dX5_weighGuesses_22 ⟨Nat.zero_le _, Nat.zero_le _⟩) hD hS hA (fun H locs hP hD hS => ?_)
  refine lv_iconst (v := 0) hx hb dX5_weighGuesses_25 (by decide) ?_
  refine lv_istore_n (lv' := [(1, .int 0), (0, .ref (q 0))]) hx hb dX5_weighGuesses_26 rfl hl (by decide) rfl (fun ls hl => ?_)
  have L27 : ∀ (n27v : Nat) (s27 : Int32 × KS) (e27 : KS), lpO mX5_weighGuesses_s27 n27v s27 = some e27 → ∀ (H : Heap) (locs : List Loc) (ls : Array Slot), va_P D vwCl (WX q cy s27.2 ++ rest) H → va_D A (WX q cy s27.2 ++ rest) → va_S A s.heap H locs → lv_has ls 4 [(0, .ref (q 0)), (1, .int s27.1)] → (∀ (H : Heap) (locs : List Loc) (ls : Array Slot), va_P D vwCl (WX q cy e27 ++ rest) H → va_D A (WX q cy e27 ++ rest) → va_S A s.heap H locs → lv_has ls 4 [(0, .ref (q 0))] → W p l e rmX5_weighGuesses s m ([.ref (q 0)] : List Value).toArray below meth c H locs 0 0 (MQ below (kQv D A (WX q cy res ++ rest)) ([.ref (q 0)] : List Value).toArray s 0 0 A) (F0 m 161 ls [])) → W p l e rmX5_weighGuesses s m ([.ref (q 0)] : List Value).toArray below meth c H locs 0 0 (MQ below (kQv D A (WX q cy res ++ rest)) ([.ref (q 0)] : List Value).toArray s 0 0 A) (F0 m 27 ls []) := by
    intro n27v
    induction n27v with
    | zero => intro s27 e27 h; exact (lpO_z h).elim
    | succ n27v ih27 =>
      intro s27 e27 h27z H locs ls hP hD hS hl K27_0
      obtain ⟨x27, hf, h27z⟩ := lpO_s h27z
      unfold mX5_weighGuesses_s27 at hf
      refine lv_iload_n hx hb dX5_weighGuesses_27 rfl (lv_at hl 1 rfl) ?_
      refine lv_aload_n hx hb dX5_weighGuesses_28 rfl (lv_at hl 0 rfl) ?_
      refine va_get (ci := 5) (v := .ref (q 3)) (C := RX5) (T := TX5) (N := 9) hx hb hts inlX5 hown hE.1 hP 0 rfl rfl 0 (by decide) (hts _ wB16) (fun _ h9 => h9) rfl dX5_weighGuesses_29 ?_
      refine va_get (ci := 3) (v := .int (gI s27.2 3)) (C := RX3) (T := TX3) (N := 9) hx hb hts inlX3 hown hE.1 hP 3 rfl rfl 6 (by decide) (hts _ wB282) (fun _ h9 => h9) rfl dX5_weighGuesses_32 ?_
      refine lv_icmp_ge (tgt := 161) hx hb dX5_weighGuesses_35 (by decide) (fun c35 => ?_) (fun c35 => ?_)
      · have hf := o_ip c35 hf
        obtain rfl := o_ret hf
        obtain rfl := lpK_l h27z
        exact K27_0 _ _ _ hP hD hS (lv_sub hl [0] rfl)
      · have hf := o_in c35 hf
        refine lv_iload_n hx hb dX5_weighGuesses_38 rfl (lv_at hl 1 rfl) ?_
        refine lv_iconst (v := 4) hx hb dX5_weighGuesses_39 (by decide) ?_
        refine lv_imul hx hb dX5_weighGuesses_40 ?_
        refine lv_istore_n (lv' := [(2, .int (s27.1 * 4)), (0, .ref (q 0)), (1, .int s27.1)]) hx hb dX5_weighGuesses_41 rfl hl (by decide) rfl (fun ls hl => ?_)
        refine lv_aload_n hx hb dX5_weighGuesses_42 rfl (lv_at hl 1 rfl) ?_
        refine va_get (ci := 5) (v := .ref (q 3)) (C := RX5) (T := TX5) (N := 9) hx hb hts inlX5 hown hE.1 hP 0 rfl rfl 0 (by decide) (hts _ wB16) (fun _ h9 => h9) rfl dX5_weighGuesses_43 ?_
        refine va_get (ci := 3) (v := .ref (q 8)) (C := RX3) (T := TX3) (N := 9) hx hb hts inlX3 hown hE.1 hP 3 rfl rfl 5 (by decide) (hts _ wB283) (fun _ h9 => h9) rfl dX5_weighGuesses_46 ?_
        refine lv_iload_n hx hb dX5_weighGuesses_49 rfl (lv_at hl 0 rfl) ?_
        obtain ⟨r50, h50r, hf⟩ := o_bs hf
        refine k_goi (va_runS (As := [.ref (q 8), .int (s27.1 * 4)]) (rest := []) ⟨hx, hb, hml, hown, hts⟩ (zX5_at l D cy sa (WX q cy s27.2 ++ rest) H.size 8 (q 8) 32 (gR s27.2 5) (s27.1 * 4) r50 rfl h50r) (va_cwS 2 hts (gB_S wB110 wB111 wB2 wB112) rfl rfl rfl (by decide +kernel) ⟨Nat.le_of_ble_eq_true rfl, Nat.le_of_ble_eq_true rfl⟩) ⟨kP.blind, k_pre hP hD hS hE hA⟩ rfl rfl hl.1 rfl (lv_room (Nat.le_of_ble_eq_true rfl)) dX5_weighGuesses_50 ⟨Nat.zero_le _, Nat.zero_le _⟩) hD hS hA (fun H locs hP hD hS => ?_)
        refine lv_istore_n (lv' := [(3, .int r50), (2, .int (s27.1 * 4)), (0, .ref (q 0)), (1, .int s27.1)]) hx hb dX5_weighGuesses_53 rfl hl (by decide) rfl (fun ls hl => ?_)
        refine lv_aload_n hx hb dX5_weighGuesses_54 rfl (lv_at hl 2 rfl) ?_
        refine va_get (ci := 5) (v := .ref (q 10)) (C := RX5) (T := TX5) (N := 9) hx hb hts inlX5 hown hE.1 hP 0 rfl rfl 2 (by decide) (hts _ wB21) (fun _ h9 => h9) rfl dX5_weighGuesses_55 ?_
        refine lv_iload_n hx hb dX5_weighGuesses_58 rfl (lv_at hl 0 rfl) ?_
        obtain ⟨r59, h59r, hf⟩ := o_bs hf
        refine k_goi (va_runV (As := [.int r50]) (rest := []) ⟨hx, hb, hml, hown, hts⟩ (zX0_has l D cy sa q rest H.size s27.2 r50 r59 h59r) (cwV 1 hts (gB_V wB318 wB319 wB320 wB20 wB321) rfl rfl rfl (by decide +kernel) ⟨Nat.le_of_ble_eq_true rfl, Nat.le_of_ble_eq_true rfl⟩) ⟨kP.blind, k_recv hE hP (ci := 0) (q0 := 10) rfl rfl, k_pre hP hD hS hE hA⟩ rfl rfl hl.1 rfl (lv_room (Nat.le_of_ble_eq_true rfl)) dX5_weighGuesses_59 ⟨Nat.zero_le _, Nat.zero_le _⟩) hD hS hA (fun H locs hP hD hS => ?_)
        refine lv_if_eq (tgt := 155) hx hb dX5_weighGuesses_62 (by decide) (fun c62 => ?_) (fun c62 => ?_)
        · have hf := o_ip c62 hf
          refine lv_iinc (v := (s27.1 + 1)) (lv' := [(1, .int (s27.1 + 1)), (3, .int r50), (2, .int (s27.1 * 4)), (0, .ref (q 0))]) hx hb dX5_weighGuesses_155 hl (k := 3) rfl (by rfl) (by decide) rfl (fun ls hl => ?_)
          refine lv_goto (tgt := 27) hx hb dX5_weighGuesses_158 (by decide) ?_
          obtain rfl := o_ret hf
          exact ih27 _ _ (lpK_r h27z) _ _ _ hP hD hS (lv_sub hl [3, 0] rfl) K27_0
        · have hf := o_in c62 hf
          refine lv_aload_n hx hb dX5_weighGuesses_65 rfl (lv_at hl 2 rfl) ?_
          refine va_get (ci := 5) (v := .ref (q 10)) (C := RX5) (T := TX5) (N := 9) hx hb hts inlX5 hown hE.1 hP 0 rfl rfl 2 (by decide) (hts _ wB21) (fun _ h9 => h9) rfl dX5_weighGuesses_66 ?_
          refine lv_iload_n hx hb dX5_weighGuesses_69 rfl (lv_at hl 0 rfl) ?_
          refine lv_aload_n hx hb dX5_weighGuesses_70 rfl (lv_at hl 2 rfl) ?_
          refine va_get (ci := 5) (v := .ref (q 3)) (C := RX5) (T := TX5) (N := 9) hx hb hts inlX5 hown hE.1 hP 0 rfl rfl 0 (by decide) (hts _ wB16) (fun _ h9 => h9) rfl dX5_weighGuesses_71 ?_
          refine va_get (ci := 3) (v := .ref (q 8)) (C := RX3) (T := TX3) (N := 9) hx hb hts inlX3 hown hE.1 hP 3 rfl rfl 5 (by decide) (hts _ wB283) (fun _ h9 => h9) rfl dX5_weighGuesses_74 ?_
          refine lv_iload_n hx hb dX5_weighGuesses_77 rfl (lv_at hl 1 rfl) ?_
          refine lv_iconst (v := 1) hx hb dX5_weighGuesses_78 (by decide) ?_
          refine lv_iadd hx hb dX5_weighGuesses_79 ?_
          obtain ⟨r80, h80r, hf⟩ := o_bs hf
          refine k_goi (va_runS (As := [.ref (q 8), .int ((s27.1 * 4) + 1)]) (rest := [.int r50, .ref (q 10)]) ⟨hx, hb, hml, hown, hts⟩ (zX5_at l D cy sa (WX q cy s27.2 ++ rest) H.size 8 (q 8) 32 (gR s27.2 5) ((s27.1 * 4) + 1) r80 rfl h80r) (va_cwS 2 hts (gB_S wB110 wB111 wB2 wB112) rfl rfl rfl (by decide +kernel) ⟨Nat.le_of_ble_eq_true rfl, Nat.le_of_ble_eq_true rfl⟩) ⟨kP.blind, k_pre hP hD hS hE hA⟩ rfl rfl hl.1 rfl (lv_room (Nat.le_of_ble_eq_true rfl)) dX5_weighGuesses_80 ⟨Nat.zero_le _, Nat.zero_le _⟩) hD hS hA (fun H locs hP hD hS => ?_)
          refine lv_aload_n hx hb dX5_weighGuesses_83 rfl (lv_at hl 2 rfl) ?_
          refine va_get (ci := 5) (v := .ref (q 15)) (C := RX5) (T := TX5) (N := 9) hx hb hts inlX5 hown hE.1 hP 0 rfl rfl 3 (by decide) (hts _ wB25) (fun _ h9 => h9) rfl dX5_weighGuesses_84 ?_
          refine va_get (ci := 2) (v := .ref (q 16)) (C := RX2) (T := TX2) (N := 4) hx hb hts inlX2 hown hE.1 hP 15 rfl rfl 1 (by decide) (hts _ wB377) (fun _ h9 => h9) rfl dX5_weighGuesses_87 ?_
          obtain ⟨r90, h90r, hf⟩ := o_bs hf
          refine k_gov (va_runV (As := [.int r50, .int r80, .ref (q 16)]) (rest := []) ⟨hx, hb, hml, hown, hts⟩ (zX0_bring l D cy sa q rest H.size s27.2 r50 r80 r90 h90r) (cwV 3 hts (gB_V wB384 wB385 wB386 wB20 wB387) rfl rfl rfl (by decide +kernel) ⟨Nat.le_of_ble_eq_true rfl, Nat.le_of_ble_eq_true rfl⟩) ⟨kP.blind, k_recv hE hP (ci := 0) (q0 := 10) rfl rfl, k_pre hP hD hS hE hA⟩ rfl rfl hl.1 rfl (lv_room (Nat.le_of_ble_eq_true rfl)) dX5_weighGuesses_90 ⟨Nat.zero_le _, Nat.zero_le _⟩) hD hS hA (fun H locs hP hD hS => ?_)
          refine lv_aload_n hx hb dX5_weighGuesses_93 rfl (lv_at hl 2 rfl) ?_
          refine va_get (ci := 5) (v := .ref (q 15)) (C := RX5) (T := TX5) (N := 9) hx hb hts inlX5 hown hE.1 hP 0 rfl rfl 3 (by decide) (hts _ wB25) (fun _ h9 => h9) rfl dX5_weighGuesses_94 ?_
          refine lv_aload_n hx hb dX5_weighGuesses_97 rfl (lv_at hl 2 rfl) ?_
          refine va_get (ci := 5) (v := .ref (q 3)) (C := RX5) (T := TX5) (N := 9) hx hb hts inlX5 hown hE.1 hP 0 rfl rfl 0 (by decide) (hts _ wB16) (fun _ h9 => h9) rfl dX5_weighGuesses_98 ?_
          refine va_get (ci := 3) (v := .ref (q 8)) (C := RX3) (T := TX3) (N := 9) hx hb hts inlX3 hown hE.1 hP 3 rfl rfl 5 (by decide) (hts _ wB283) (fun _ h9 => h9) rfl dX5_weighGuesses_101 ?_
          refine lv_iload_n hx hb dX5_weighGuesses_104 rfl (lv_at hl 1 rfl) ?_
          refine lv_iconst (v := 2) hx hb dX5_weighGuesses_105 (by decide) ?_
          refine lv_iadd hx hb dX5_weighGuesses_106 ?_
          obtain ⟨r107, h107r, hf⟩ := o_bs hf
          refine k_goi (va_runS (As := [.ref (q 8), .int ((s27.1 * 4) + 2)]) (rest := [.ref (q 15)]) ⟨hx, hb, hml, hown, hts⟩ (zX5_at l D cy sa (WX q cy r90 ++ rest) H.size 8 (q 8) 32 (gR r90 5) ((s27.1 * 4) + 2) r107 rfl h107r) (va_cwS 2 hts (gB_S wB110 wB111 wB2 wB112) rfl rfl rfl (by decide +kernel) ⟨Nat.le_of_ble_eq_true rfl, Nat.le_of_ble_eq_true rfl⟩) ⟨kP.blind, k_pre hP hD hS hE hA⟩ rfl rfl hl.1 rfl (lv_room (Nat.le_of_ble_eq_true rfl)) dX5_weighGuesses_107 ⟨Nat.zero_le _, Nat.zero_le _⟩) hD hS hA (fun H locs hP hD hS => ?_)
          obtain ⟨r110, h110r, hf⟩ := o_bs hf
          refine k_gov (va_runV (As := [.int r107]) (rest := []) ⟨hx, hb, hml, hown, hts⟩ (zX2_addUp l D cy sa q rest H.size r90 r107 r110 h110r) (cwV 1 hts (gB_V wB389 wB390 wB391 wB24 wB392) rfl rfl rfl (by decide +kernel) ⟨Nat.le_of_ble_eq_true rfl, Nat.le_of_ble_eq_true rfl⟩) ⟨kP.blind, k_recv hE hP (ci := 2) (q0 := 15) rfl rfl, k_pre hP hD hS hE hA⟩ rfl rfl hl.1 rfl (lv_room (Nat.le_of_ble_eq_true rfl)) dX5_weighGuesses_110 ⟨Nat.zero_le _, Nat.zero_le _⟩) hD hS hA (fun H locs hP hD hS => ?_)
          refine lv_aload_n hx hb dX5_weighGuesses_113 rfl (lv_at hl 2 rfl) ?_
          refine va_get (ci := 5) (v := .ref (q 15)) (C := RX5) (T := TX5) (N := 9) hx hb hts inlX5 hown hE.1 hP 0 rfl rfl 3 (by decide) (hts _ wB25) (fun _ h9 => h9) rfl dX5_weighGuesses_114 ?_
          refine lv_aload_n hx hb dX5_weighGuesses_117 rfl (lv_at hl 2 rfl) ?_
          refine va_get (ci := 5) (v := .ref (q 3)) (C := RX5) (T := TX5) (N := 9) hx hb hts inlX5 hown hE.1 hP 0 rfl rfl 0 (by decide) (hts _ wB16) (fun _ h9 => h9) rfl dX5_weighGuesses_118 ?_
          refine va_get (ci := 3) (v := .ref (q 8)) (C := RX3) (T := TX3) (N := 9) hx hb hts inlX3 hown hE.1 hP 3 rfl rfl 5 (by decide) (hts _ wB283) (fun _ h9 => h9) rfl dX5_weighGuesses_121 ?_
          refine lv_iload_n hx hb dX5_weighGuesses_124 rfl (lv_at hl 1 rfl) ?_
          refine lv_iconst (v := 3) hx hb dX5_weighGuesses_125 (by decide) ?_
          refine lv_iadd hx hb dX5_weighGuesses_126 ?_
          obtain ⟨r127, h127r, hf⟩ := o_bs hf
          refine k_goi (va_runS (As := [.ref (q 8), .int ((s27.1 * 4) + 3)]) (rest := [.ref (q 15)]) ⟨hx, hb, hml, hown, hts⟩ (zX5_at l D cy sa (WX q cy r110 ++ rest) H.size 8 (q 8) 32 (gR r110 5) ((s27.1 * 4) + 3) r127 rfl h127r) (va_cwS 2 hts (gB_S wB110 wB111 wB2 wB112) rfl rfl rfl (by decide +kernel) ⟨Nat.le_of_ble_eq_true rfl, Nat.le_of_ble_eq_true rfl⟩) ⟨kP.blind, k_pre hP hD hS hE hA⟩ rfl rfl hl.1 rfl (lv_room (Nat.le_of_ble_eq_true rfl)) dX5_weighGuesses_127 ⟨Nat.zero_le _, Nat.zero_le _⟩) hD hS hA (fun H locs hP hD hS => ?_)
          refine lv_aload_n hx hb dX5_weighGuesses_130 rfl (lv_at hl 2 rfl) ?_
          refine va_get (ci := 5) (v := .ref (q 3)) (C := RX5) (T := TX5) (N := 9) hx hb hts inlX5 hown hE.1 hP 0 rfl rfl 0 (by decide) (hts _ wB16) (fun _ h9 => h9) rfl dX5_weighGuesses_131 ?_
          refine va_get (ci := 3) (v := .ref (q 5)) (C := RX3) (T := TX3) (N := 9) hx hb hts inlX3 hown hE.1 hP 3 rfl rfl 2 (by decide) (hts _ wB136) (fun _ h9 => h9) rfl dX5_weighGuesses_134 ?_
          refine lv_iconst (v := 1) hx hb dX5_weighGuesses_137 (by decide) ?_
          obtain ⟨r138, h138r, hf⟩ := o_bs hf
          refine k_goi (va_runS (As := [.ref (q 5), .int 1]) (rest := [.int r127, .ref (q 15)]) ⟨hx, hb, hml, hown, hts⟩ (zX5_at l D cy sa (WX q cy r110 ++ rest) H.size 5 (q 5) 4 (gR r110 2) 1 r138 rfl h138r) (va_cwS 2 hts (gB_S wB110 wB111 wB2 wB112) rfl rfl rfl (by decide +kernel) ⟨Nat.le_of_ble_eq_true rfl, Nat.le_of_ble_eq_true rfl⟩) ⟨kP.blind, k_pre hP hD hS hE hA⟩ rfl rfl hl.1 rfl (lv_room (Nat.le_of_ble_eq_true rfl)) dX5_weighGuesses_138 ⟨Nat.zero_le _, Nat.zero_le _⟩) hD hS hA (fun H locs hP hD hS => ?_)
          refine lv_aload_n hx hb dX5_weighGuesses_141 rfl (lv_at hl 2 rfl) ?_
          refine va_get (ci := 5) (v := .ref (q 3)) (C := RX5) (T := TX5) (N := 9) hx hb hts inlX5 hown hE.1 hP 0 rfl rfl 0 (by decide) (hts _ wB16) (fun _ h9 => h9) rfl dX5_weighGuesses_142 ?_
          refine va_get (ci := 3) (v := .ref (q 5)) (C := RX3) (T := TX3) (N := 9) hx hb hts inlX3 hown hE.1 hP 3 rfl rfl 2 (by decide) (hts _ wB136) (fun _ h9 => h9) rfl dX5_weighGuesses_145 ?_
          refine lv_iconst (v := 2) hx hb dX5_weighGuesses_148 (by decide) ?_
          obtain ⟨r149, h149r, hf⟩ := o_bs hf
          refine k_goi (va_runS (As := [.ref (q 5), .int 2]) (rest := [.int r138, .int r127, .ref (q 15)]) ⟨hx, hb, hml, hown, hts⟩ (zX5_at l D cy sa (WX q cy r110 ++ rest) H.size 5 (q 5) 4 (gR r110 2) 2 r149 rfl h149r) (va_cwS 2 hts (gB_S wB110 wB111 wB2 wB112) rfl rfl rfl (by decide +kernel) ⟨Nat.le_of_ble_eq_true rfl, Nat.le_of_ble_eq_true rfl⟩) ⟨kP.blind, k_pre hP hD hS hE hA⟩ rfl rfl hl.1 rfl (lv_room (Nat.le_of_ble_eq_true rfl)) dX5_weighGuesses_149 ⟨Nat.zero_le _, Nat.zero_le _⟩) hD hS hA (fun H locs hP hD hS => ?_)
          obtain ⟨r152, h152r, hf⟩ := o_bs hf
          refine k_gov (va_runV (As := [.int r127, .int r138, .int r149]) (rest := []) ⟨hx, hb, hml, hown, hts⟩ (zX2_weigh l D cy sa q rest H.size r110 r127 r138 r149 r152 h152r) (cwV 3 hts (gB_V wB397 wB398 wB399 wB24 wB400) rfl rfl rfl (by decide +kernel) ⟨Nat.le_of_ble_eq_true rfl, Nat.le_of_ble_eq_true rfl⟩) ⟨kP.blind, k_recv hE hP (ci := 2) (q0 := 15) rfl rfl, k_pre hP hD hS hE hA⟩ rfl rfl hl.1 rfl (lv_room (Nat.le_of_ble_eq_true rfl)) dX5_weighGuesses_152 ⟨Nat.zero_le _, Nat.zero_le _⟩) hD hS hA (fun H locs hP hD hS => ?_)
          refine lv_iinc (v := (s27.1 + 1)) (lv' := [(1, .int (s27.1 + 1)), (3, .int r50), (2, .int (s27.1 * 4)), (0, .ref (q 0))]) hx hb dX5_weighGuesses_155 hl (k := 3) rfl (by rfl) (by decide) rfl (fun ls hl => ?_)
          refine lv_goto (tgt := 27) hx hb dX5_weighGuesses_158 (by decide) ?_
          obtain rfl := o_ret hf
          exact ih27 _ _ (lpK_r h27z) _ _ _ hP hD hS (lv_sub hl [3, 0] rfl) K27_0
  obtain ⟨e27, h27q, hf⟩ := o_bs hf
  obtain ⟨n27v, h27q⟩ := lpF_ex h27q
  refine L27 n27v _ e27 h27q _ _ _ hP hD hS (lv_sub hl [1, 0] rfl) ?_
  intro H locs ls hP hD hS hl
  refine lv_aload_n hx hb dX5_weighGuesses_161 rfl (lv_at hl 0 rfl) ?_
  refine va_get (ci := 5) (v := .ref (q 15)) (C := RX5) (T := TX5) (N := 9) hx hb hts inlX5 hown hE.1 hP 0 rfl rfl 3 (by decide) (hts _ wB25) (fun _ h9 => h9) rfl dX5_weighGuesses_162 ?_
  obtain ⟨r165, h165r, hf⟩ := o_bs hf
  refine k_gov (va_runV (As := []) (rest := []) ⟨hx, hb, hml, hown, hts⟩ (zX2_total l D cy sa q rest H.size e27  r165 h165r) (cwV 0 hts (gB_V wB404 wB405 wB406 wB24 wB407) rfl rfl rfl (by decide +kernel) ⟨Nat.le_of_ble_eq_true rfl, Nat.le_of_ble_eq_true rfl⟩) ⟨kP.blind, k_recv hE hP (ci := 2) (q0 := 15) rfl rfl, k_pre hP hD hS hE hA⟩ rfl rfl hl.1 rfl (lv_room (Nat.le_of_ble_eq_true rfl)) dX5_weighGuesses_165 ⟨Nat.zero_le _, Nat.zero_le _⟩) hD hS hA (fun H locs hP hD hS => ?_)
  obtain rfl := o_ret hf
  exact k_vret hx hb hr hP hD hS (Nat.zero_le _) (Nat.zero_le _) hlocks dX5_weighGuesses_168
noncomputable def mX5_noGuesses (u : KS) : Option (Int32 × KS) :=
  (mX5_readDay u).bind fun r1 =>
  if (gI r1 5) = (-1) then
  (if (gI r1 1) = 0 then
  (if (lg_cmp (gL r1 0) 0) = 0 then
  (some (1, r1))
  else
  (some (0, r1)))
  else
  ((mX5_weighGuesses r1).bind fun r25 =>
  if (lg_cmp (gL r25 0) 0) = 0 then
  (some (1, (sI r25 1 0)))
  else
  (some (0, (sI r25 1 0)))))
  else
  (some (1, r1))
abbrev rmX5_noGuesses : Room := { frames := 9, cells := 0, slots := 0, locals := 197 }
set_option maxRecDepth 100000 in
set_option maxHeartbeats 4000000 in
theorem zX5_noGuesses (l : Launch) (D : va_G) (cy : Nat → ClassId) (sa : Nat → Nat) (q : Nat → Nat) (rest : va_W) (sz : Nat) (u : KS) (res : Int32 × KS) (hf : mX5_noGuesses u = some res) : kMi l yX5_noGuesses (wsK yX5_noGuesses cX5_noGuesses 1 (some .boolean)) rmX5_noGuesses D cy sa (WX q cy u ++ rest) sz [.ref (q 0)] res.1 (WX q cy res.2 ++ rest) 0 0 := by
  refine kM_of (Qc := fun A => kQi D A res.1 (WX q cy res.2 ++ rest)) (cc := cX5_noGuesses) (maxL := 1) (ret := (some .boolean)) (by decide) (Nat.le_of_ble_eq_true rfl) ?_
  intro p e s m below meth c A hx hb hml hr hts hown hlocks hin hA hP hD hS hE hsz ls hl
  have hown : s.vm.findClass RX5 = some m.cls := hown
  obtain ⟨H, hH0⟩ : ∃ H, H = s.heap := ⟨_, rfl⟩
  obtain ⟨locs, hlocs0⟩ : ∃ locs : List Loc, locs = [] := ⟨_, rfl⟩
  have hP : va_P D vwCl (WX q cy u ++ rest) H := by rw [hH0]; exact hP
  have hS : va_S A s.heap H locs := by rw [hH0, hlocs0]; exact hS
  have hl : lv_has ls 1 [(0, .ref (q 0))] := hl
  suffices hgoal : W p l e rmX5_noGuesses s m ([.ref (q 0)] : List Value).toArray below meth c H locs 0 0 (MQ below (kQi D A res.1 (WX q cy res.2 ++ rest)) ([.ref (q 0)] : List Value).toArray s 0 0 A) (F0 m 0 ls []) by rw [hH0, hlocs0] at hgoal; exact hgoal
  clear hH0 hlocs0
  unfold mX5_noGuesses at hf
  refine lv_aload_n hx hb dX5_noGuesses_0 rfl (lv_at hl 0 rfl) ?_
  obtain ⟨r1, h1r, hf⟩ := o_bs hf
  refine k_gov (va_runV (As := []) (rest := []) ⟨hx, hb, hml, hown, hts⟩ (zX5_readDay l D cy sa q rest H.size u  r1 h1r) (cwV 0 hts (gB_V wB147 wB148 wB149 wB2 wB150) rfl rfl rfl (by decide +kernel) ⟨Nat.le_of_ble_eq_true rfl, Nat.le_of_ble_eq_true rfl⟩) ⟨kP.blind, k_recv hE hP (ci := 5) (q0 := 0) rfl rfl, k_pre hP hD hS hE hA⟩ rfl rfl hl.1 rfl (lv_room (Nat.le_of_ble_eq_true rfl)) dX5_noGuesses_1 ⟨Nat.zero_le _, Nat.zero_le _⟩) hD hS hA (fun H locs hP hD hS => ?_)
  refine lv_aload_n hx hb dX5_noGuesses_4 rfl (lv_at hl 0 rfl) ?_
  refine va_get (ci := 5) (v := .ref (q 10)) (C := RX5) (T := TX5) (N := 9) hx hb hts inlX5 hown hE.1 hP 0 rfl rfl 2 (by decide) (hts _ wB21) (fun _ h9 => h9) rfl dX5_noGuesses_5 ?_
  refine va_get (ci := 0) (v := .int (gI r1 5)) (C := RX0) (T := TX0) (N := 9) hx hb hts inlX0 hown hE.1 hP 10 rfl rfl 0 (by decide) (hts _ wB146) (fun _ h9 => h9) rfl dX5_noGuesses_8 ?_
  refine lv_iconst (v := (-1)) hx hb dX5_noGuesses_11 (by decide) ?_
  refine lv_icmp_eq (tgt := 17) hx hb dX5_noGuesses_12 (by decide) (fun c12 => ?_) (fun c12 => ?_)
  · have hf := o_ip c12 hf
    refine lv_aload_n hx hb dX5_noGuesses_17 rfl (lv_at hl 0 rfl) ?_
    refine va_get (ci := 5) (v := .int (gI r1 1)) (C := RX5) (T := TX5) (N := 9) hx hb hts inlX5 hown hE.1 hP 0 rfl rfl 8 (by decide) (hts _ wB37) (fun _ h9 => h9) rfl dX5_noGuesses_18 ?_
    refine lv_if_eq (tgt := 33) hx hb dX5_noGuesses_21 (by decide) (fun c21 => ?_) (fun c21 => ?_)
    · have hf := o_ip c21 hf
      refine lv_aload_n hx hb dX5_noGuesses_33 rfl (lv_at hl 0 rfl) ?_
      refine va_get (ci := 5) (v := .ref (q 15)) (C := RX5) (T := TX5) (N := 9) hx hb hts inlX5 hown hE.1 hP 0 rfl rfl 3 (by decide) (hts _ wB25) (fun _ h9 => h9) rfl dX5_noGuesses_34 ?_
      refine va_get (ci := 2) (v := .long (gL r1 0)) (C := RX2) (T := TX2) (N := 4) hx hb hts inlX2 hown hE.1 hP 15 rfl rfl 0 (by decide) (hts _ wB372) (fun _ h9 => h9) rfl dX5_noGuesses_37 ?_
      refine lv_lconst (v := 0) hx hb dX5_noGuesses_40 (by decide) ?_
      refine W.lcmp hx hb dX5_noGuesses_41 ?_
      refine lv_if_ne (tgt := 49) hx hb dX5_noGuesses_42 (by decide) (fun c42 => ?_) (fun c42 => ?_)
      · have hf := o_in c42 hf
        refine lv_iconst (v := 0) hx hb dX5_noGuesses_49 (by decide) ?_
        obtain rfl := o_ret hf
        exact k_zret (v := 0) hx hb hr hP hD hS rfl (Nat.zero_le _) (Nat.zero_le _) hlocks dX5_noGuesses_50
      · have hf := o_ip c42 hf
        refine lv_iconst (v := 1) hx hb dX5_noGuesses_45 (by decide) ?_
        refine lv_goto (tgt := 50) hx hb dX5_noGuesses_46 (by decide) ?_
        obtain rfl := o_ret hf
        exact k_zret (v := 1) hx hb hr hP hD hS rfl (Nat.zero_le _) (Nat.zero_le _) hlocks dX5_noGuesses_50
    · have hf := o_in c21 hf
      refine lv_aload_n hx hb dX5_noGuesses_24 rfl (lv_at hl 0 rfl) ?_
      obtain ⟨r25, h25r, hf⟩ := o_bs hf
      refine k_gov (va_runV (As := []) (rest := []) ⟨hx, hb, hml, hown, hts⟩ (zX5_weighGuesses l D cy sa q rest H.size r1  r25 h25r) (cwV 0 hts (gB_V wB373 wB374 wB375 wB2 wB376) rfl rfl rfl (by decide +kernel) ⟨Nat.le_of_ble_eq_true rfl, Nat.le_of_ble_eq_true rfl⟩) ⟨kP.blind, k_recv hE hP (ci := 5) (q0 := 0) rfl rfl, k_pre hP hD hS hE hA⟩ rfl rfl hl.1 rfl (lv_room (Nat.le_of_ble_eq_true rfl)) dX5_noGuesses_25 ⟨Nat.zero_le _, Nat.zero_le _⟩) hD hS hA (fun H locs hP hD hS => ?_)
      refine lv_aload_n hx hb dX5_noGuesses_28 rfl (lv_at hl 0 rfl) ?_
      refine lv_iconst (v := 0) hx hb dX5_noGuesses_29 (by decide) ?_
      refine va_put (ci := 5) (v := .int 0) (ty := .boolean) (C := RX5) (T := TX5) (N := 9) hx hb hts inlX5 tyX5 tyX5_ok nmX5 hown hE.1 hP hD hS 0 rfl rfl 8 (by decide) (hts _ wB37) (fun _ h9 => h9) rfl (by decide +kernel) rfl rfl (Nat.le_of_ble_eq_true rfl) dX5_noGuesses_30 (fun H locs hP hD hS => ?_)
      have hP : va_P D vwCl (WX q cy (sI r25 1 0) ++ rest) H := hP
      have hD : va_D A (WX q cy (sI r25 1 0) ++ rest) := hD
      refine lv_aload_n hx hb dX5_noGuesses_33 rfl (lv_at hl 0 rfl) ?_
      refine va_get (ci := 5) (v := .ref (q 15)) (C := RX5) (T := TX5) (N := 9) hx hb hts inlX5 hown hE.1 hP 0 rfl rfl 3 (by decide) (hts _ wB25) (fun _ h9 => h9) rfl dX5_noGuesses_34 ?_
      refine va_get (ci := 2) (v := .long (gL r25 0)) (C := RX2) (T := TX2) (N := 4) hx hb hts inlX2 hown hE.1 hP 15 rfl rfl 0 (by decide) (hts _ wB372) (fun _ h9 => h9) rfl dX5_noGuesses_37 ?_
      refine lv_lconst (v := 0) hx hb dX5_noGuesses_40 (by decide) ?_
      refine W.lcmp hx hb dX5_noGuesses_41 ?_
      refine lv_if_ne (tgt := 49) hx hb dX5_noGuesses_42 (by decide) (fun c42 => ?_) (fun c42 => ?_)
      · have hf := o_in c42 hf
        refine lv_iconst (v := 0) hx hb dX5_noGuesses_49 (by decide) ?_
        obtain rfl := o_ret hf
        exact k_zret (v := 0) hx hb hr hP hD hS rfl (Nat.zero_le _) (Nat.zero_le _) hlocks dX5_noGuesses_50
      · have hf := o_ip c42 hf
        refine lv_iconst (v := 1) hx hb dX5_noGuesses_45 (by decide) ?_
        refine lv_goto (tgt := 50) hx hb dX5_noGuesses_46 (by decide) ?_
        obtain rfl := o_ret hf
        exact k_zret (v := 1) hx hb hr hP hD hS rfl (Nat.zero_le _) (Nat.zero_le _) hlocks dX5_noGuesses_50
  · have hf := o_in c12 hf
    refine lv_iconst (v := 1) hx hb dX5_noGuesses_15 (by decide) ?_
    obtain rfl := o_ret hf
    exact k_zret (v := 1) hx hb hr hP hD hS rfl (Nat.zero_le _) (Nat.zero_le _) hlocks dX5_noGuesses_16
noncomputable def mX5_leaks (u : KS) (a1 : Int32) : Option (Int32 × KS) :=
  if a1 < 0 then
  ((mX5_bad u).bind fun r11 =>
  some (r11.1, r11.2))
  else
  (if a1 ≤ 99999 then
  ((mX5_noGuesses u).bind fun r16 =>
  if r16.1 = 0 then
  ((mX0_bringBurnt r16.2).bind fun r38 =>
  (mX2_addUp r38 4).bind fun r46 =>
  (mX2_below r46 a1).bind fun r58 =>
  (mX1_setShare r46 r58 (gL r46 0)).bind fun r68 =>
  some (1, r68))
  else
  ((mX5_no r16.2).bind fun r23 =>
  some (r23.1, r23.2)))
  else
  ((mX5_bad u).bind fun r11 =>
  some (r11.1, r11.2)))
abbrev rmX5_leaks : Room := { frames := 10, cells := 0, slots := 0, locals := 217 }
set_option maxRecDepth 100000 in
set_option maxHeartbeats 4000000 in
theorem zX5_leaks (l : Launch) (D : va_G) (cy : Nat → ClassId) (sa : Nat → Nat) (q : Nat → Nat) (rest : va_W) (sz : Nat) (u : KS) (a1 : Int32) (res : Int32 × KS) (hf : mX5_leaks u a1 = some res) : kMi l yX5_leaks (wsK yX5_leaks cX5_leaks 2 (some .int)) rmX5_leaks D cy sa (WX q cy u ++ rest) sz [.ref (q 0), .int a1] res.1 (WX q cy res.2 ++ rest) 0 0 := by
  refine kM_of (Qc := fun A => kQi D A res.1 (WX q cy res.2 ++ rest)) (cc := cX5_leaks) (maxL := 2) (ret := (some .int)) (by decide) (Nat.le_of_ble_eq_true rfl) ?_
  intro p e s m below meth c A hx hb hml hr hts hown hlocks hin hA hP hD hS hE hsz ls hl
  have hown : s.vm.findClass RX5 = some m.cls := hown
  obtain ⟨H, hH0⟩ : ∃ H, H = s.heap := ⟨_, rfl⟩
  obtain ⟨locs, hlocs0⟩ : ∃ locs : List Loc, locs = [] := ⟨_, rfl⟩
  have hP : va_P D vwCl (WX q cy u ++ rest) H := by rw [hH0]; exact hP
  have hS : va_S A s.heap H locs := by rw [hH0, hlocs0]; exact hS
  have hl : lv_has ls 2 [(0, .ref (q 0)), (1, .int a1)] := hl
  suffices hgoal : W p l e rmX5_leaks s m ([.ref (q 0), .int a1] : List Value).toArray below meth c H locs 0 0 (MQ below (kQi D A res.1 (WX q cy res.2 ++ rest)) ([.ref (q 0), .int a1] : List Value).toArray s 0 0 A) (F0 m 0 ls []) by rw [hH0, hlocs0] at hgoal; exact hgoal
  clear hH0 hlocs0
  unfold mX5_leaks at hf
  refine lv_iload_n hx hb dX5_leaks_0 rfl (lv_at hl 1 rfl) ?_
  refine lv_if_lt (tgt := 10) hx hb dX5_leaks_1 (by decide) (fun c1 => ?_) (fun c1 => ?_)
  · have hf := o_ip c1 hf
    refine lv_aload_n hx hb dX5_leaks_10 rfl (lv_at hl 0 rfl) ?_
    obtain ⟨r11, h11r, hf⟩ := o_bs hf
    refine k_goi (va_runV (As := []) (rest := []) ⟨hx, hb, hml, hown, hts⟩ (zX5_bad l D cy sa q rest H.size u  r11 h11r) (cwV 0 hts (gB_V wB102 wB103 wB104 wB2 wB105) rfl rfl rfl (by decide +kernel) ⟨Nat.le_of_ble_eq_true rfl, Nat.le_of_ble_eq_true rfl⟩) ⟨kP.blind, k_recv hE hP (ci := 5) (q0 := 0) rfl rfl, k_pre hP hD hS hE hA⟩ rfl rfl hl.1 rfl (lv_room (Nat.le_of_ble_eq_true rfl)) dX5_leaks_11 ⟨Nat.zero_le _, Nat.zero_le _⟩) hD hS hA (fun H locs hP hD hS => ?_)
    obtain rfl := o_ret hf
    exact k_iret hx hb hr hP hD hS (Nat.zero_le _) (Nat.zero_le _) hlocks dX5_leaks_14
  · have hf := o_in c1 hf
    refine lv_iload_n hx hb dX5_leaks_4 rfl (lv_at hl 1 rfl) ?_
    refine lv_ldc (v := 99999) hx hb hown (hts _ wB478) dX5_leaks_5 ?_
    refine lv_icmp_le (tgt := 15) hx hb dX5_leaks_7 (by decide) (fun c7 => ?_) (fun c7 => ?_)
    · have hf := o_ip c7 hf
      refine lv_aload_n hx hb dX5_leaks_15 rfl (lv_at hl 0 rfl) ?_
      obtain ⟨r16, h16r, hf⟩ := o_bs hf
      refine k_goi (va_runV (As := []) (rest := []) ⟨hx, hb, hml, hown, hts⟩ (zX5_noGuesses l D cy sa q rest H.size u  r16 h16r) (cwV 0 hts (gB_V wB368 wB369 wB370 wB2 wB371) rfl rfl rfl (by decide +kernel) ⟨Nat.le_of_ble_eq_true rfl, Nat.le_of_ble_eq_true rfl⟩) ⟨kP.blind, k_recv hE hP (ci := 5) (q0 := 0) rfl rfl, k_pre hP hD hS hE hA⟩ rfl rfl hl.1 rfl (lv_room (Nat.le_of_ble_eq_true rfl)) dX5_leaks_16 ⟨Nat.zero_le _, Nat.zero_le _⟩) hD hS hA (fun H locs hP hD hS => ?_)
      refine lv_if_eq (tgt := 27) hx hb dX5_leaks_19 (by decide) (fun c19 => ?_) (fun c19 => ?_)
      · have hf := o_ip c19 hf
        refine lv_aload_n hx hb dX5_leaks_27 rfl (lv_at hl 0 rfl) ?_
        refine va_get (ci := 5) (v := .ref (q 10)) (C := RX5) (T := TX5) (N := 9) hx hb hts inlX5 hown hE.1 hP 0 rfl rfl 2 (by decide) (hts _ wB21) (fun _ h9 => h9) rfl dX5_leaks_28 ?_
        refine lv_aload_n hx hb dX5_leaks_31 rfl (lv_at hl 0 rfl) ?_
        refine va_get (ci := 5) (v := .ref (q 15)) (C := RX5) (T := TX5) (N := 9) hx hb hts inlX5 hown hE.1 hP 0 rfl rfl 3 (by decide) (hts _ wB25) (fun _ h9 => h9) rfl dX5_leaks_32 ?_
        refine va_get (ci := 2) (v := .ref (q 16)) (C := RX2) (T := TX2) (N := 4) hx hb hts inlX2 hown hE.1 hP 15 rfl rfl 1 (by decide) (hts _ wB377) (fun _ h9 => h9) rfl dX5_leaks_35 ?_
        obtain ⟨r38, h38r, hf⟩ := o_bs hf
        refine k_gov (va_runV (As := [.ref (q 16)]) (rest := []) ⟨hx, hb, hml, hown, hts⟩ (zX0_bringBurnt l D cy sa q rest H.size r16.2  r38 h38r) (cwV 1 hts (gB_V wB479 wB480 wB481 wB20 wB482) rfl rfl rfl (by decide +kernel) ⟨Nat.le_of_ble_eq_true rfl, Nat.le_of_ble_eq_true rfl⟩) ⟨kP.blind, k_recv hE hP (ci := 0) (q0 := 10) rfl rfl, k_pre hP hD hS hE hA⟩ rfl rfl hl.1 rfl (lv_room (Nat.le_of_ble_eq_true rfl)) dX5_leaks_38 ⟨Nat.zero_le _, Nat.zero_le _⟩) hD hS hA (fun H locs hP hD hS => ?_)
        refine lv_aload_n hx hb dX5_leaks_41 rfl (lv_at hl 0 rfl) ?_
        refine va_get (ci := 5) (v := .ref (q 15)) (C := RX5) (T := TX5) (N := 9) hx hb hts inlX5 hown hE.1 hP 0 rfl rfl 3 (by decide) (hts _ wB25) (fun _ h9 => h9) rfl dX5_leaks_42 ?_
        refine lv_iconst (v := 4) hx hb dX5_leaks_45 (by decide) ?_
        obtain ⟨r46, h46r, hf⟩ := o_bs hf
        refine k_gov (va_runV (As := [.int 4]) (rest := []) ⟨hx, hb, hml, hown, hts⟩ (zX2_addUp l D cy sa q rest H.size r38 4 r46 h46r) (cwV 1 hts (gB_V wB389 wB390 wB391 wB24 wB392) rfl rfl rfl (by decide +kernel) ⟨Nat.le_of_ble_eq_true rfl, Nat.le_of_ble_eq_true rfl⟩) ⟨kP.blind, k_recv hE hP (ci := 2) (q0 := 15) rfl rfl, k_pre hP hD hS hE hA⟩ rfl rfl hl.1 rfl (lv_room (Nat.le_of_ble_eq_true rfl)) dX5_leaks_46 ⟨Nat.zero_le _, Nat.zero_le _⟩) hD hS hA (fun H locs hP hD hS => ?_)
        refine lv_aload_n hx hb dX5_leaks_49 rfl (lv_at hl 0 rfl) ?_
        refine va_get (ci := 5) (v := .ref (q 21)) (C := RX5) (T := TX5) (N := 9) hx hb hts inlX5 hown hE.1 hP 0 rfl rfl 5 (by decide) (hts _ wB33) (fun _ h9 => h9) rfl dX5_leaks_50 ?_
        refine lv_aload_n hx hb dX5_leaks_53 rfl (lv_at hl 0 rfl) ?_
        refine va_get (ci := 5) (v := .ref (q 15)) (C := RX5) (T := TX5) (N := 9) hx hb hts inlX5 hown hE.1 hP 0 rfl rfl 3 (by decide) (hts _ wB25) (fun _ h9 => h9) rfl dX5_leaks_54 ?_
        refine lv_iload_n hx hb dX5_leaks_57 rfl (lv_at hl 1 rfl) ?_
        obtain ⟨r58, h58r, hf⟩ := o_bs hf
        refine k_gol (va_runV (As := [.int a1]) (rest := [.ref (q 21)]) ⟨hx, hb, hml, hown, hts⟩ (zX2_below l D cy sa q rest H.size r46 a1 r58 h58r) (cwV 1 hts (gB_V wB483 wB484 wB485 wB24 wB486) rfl rfl rfl (by decide +kernel) ⟨Nat.le_of_ble_eq_true rfl, Nat.le_of_ble_eq_true rfl⟩) ⟨kP.blind, k_recv hE hP (ci := 2) (q0 := 15) rfl rfl, k_pre hP hD hS hE hA⟩ rfl rfl hl.1 rfl (lv_room (Nat.le_of_ble_eq_true rfl)) dX5_leaks_58 ⟨Nat.zero_le _, Nat.zero_le _⟩) hD hS hA (fun H locs hP hD hS => ?_)
        refine lv_aload_n hx hb dX5_leaks_61 rfl (lv_at hl 0 rfl) ?_
        refine va_get (ci := 5) (v := .ref (q 15)) (C := RX5) (T := TX5) (N := 9) hx hb hts inlX5 hown hE.1 hP 0 rfl rfl 3 (by decide) (hts _ wB25) (fun _ h9 => h9) rfl dX5_leaks_62 ?_
        refine va_get (ci := 2) (v := .long (gL r46 0)) (C := RX2) (T := TX2) (N := 4) hx hb hts inlX2 hown hE.1 hP 15 rfl rfl 0 (by decide) (hts _ wB372) (fun _ h9 => h9) rfl dX5_leaks_65 ?_
        obtain ⟨r68, h68r, hf⟩ := o_bs hf
        refine k_gov (va_runV (As := [.long r58, .long (gL r46 0)]) (rest := []) ⟨hx, hb, hml, hown, hts⟩ (zX1_setShare l D cy sa q rest H.size r46 r58 (gL r46 0) r68 h68r) (cwV 2 hts (gB_V wB423 wB424 wB425 wB32 wB426) rfl rfl rfl (by decide +kernel) ⟨Nat.le_of_ble_eq_true rfl, Nat.le_of_ble_eq_true rfl⟩) ⟨kP.blind, k_recv hE hP (ci := 1) (q0 := 21) rfl rfl, k_pre hP hD hS hE hA⟩ rfl rfl hl.1 rfl (lv_room (Nat.le_of_ble_eq_true rfl)) dX5_leaks_68 ⟨Nat.zero_le _, Nat.zero_le _⟩) hD hS hA (fun H locs hP hD hS => ?_)
        refine lv_iconst (v := 1) hx hb dX5_leaks_71 (by decide) ?_
        obtain rfl := o_ret hf
        exact k_iret hx hb hr hP hD hS (Nat.zero_le _) (Nat.zero_le _) hlocks dX5_leaks_72
      · have hf := o_in c19 hf
        refine lv_aload_n hx hb dX5_leaks_22 rfl (lv_at hl 0 rfl) ?_
        obtain ⟨r23, h23r, hf⟩ := o_bs hf
        refine k_goi (va_runV (As := []) (rest := []) ⟨hx, hb, hml, hown, hts⟩ (zX5_no l D cy sa q rest H.size r16.2  r23 h23r) (cwV 0 hts (gB_V wB299 wB300 wB301 wB2 wB302) rfl rfl rfl (by decide +kernel) ⟨Nat.le_of_ble_eq_true rfl, Nat.le_of_ble_eq_true rfl⟩) ⟨kP.blind, k_recv hE hP (ci := 5) (q0 := 0) rfl rfl, k_pre hP hD hS hE hA⟩ rfl rfl hl.1 rfl (lv_room (Nat.le_of_ble_eq_true rfl)) dX5_leaks_23 ⟨Nat.zero_le _, Nat.zero_le _⟩) hD hS hA (fun H locs hP hD hS => ?_)
        obtain rfl := o_ret hf
        exact k_iret hx hb hr hP hD hS (Nat.zero_le _) (Nat.zero_le _) hlocks dX5_leaks_26
    · have hf := o_in c7 hf
      refine lv_aload_n hx hb dX5_leaks_10 rfl (lv_at hl 0 rfl) ?_
      obtain ⟨r11, h11r, hf⟩ := o_bs hf
      refine k_goi (va_runV (As := []) (rest := []) ⟨hx, hb, hml, hown, hts⟩ (zX5_bad l D cy sa q rest H.size u  r11 h11r) (cwV 0 hts (gB_V wB102 wB103 wB104 wB2 wB105) rfl rfl rfl (by decide +kernel) ⟨Nat.le_of_ble_eq_true rfl, Nat.le_of_ble_eq_true rfl⟩) ⟨kP.blind, k_recv hE hP (ci := 5) (q0 := 0) rfl rfl, k_pre hP hD hS hE hA⟩ rfl rfl hl.1 rfl (lv_room (Nat.le_of_ble_eq_true rfl)) dX5_leaks_11 ⟨Nat.zero_le _, Nat.zero_le _⟩) hD hS hA (fun H locs hP hD hS => ?_)
      obtain rfl := o_ret hf
      exact k_iret hx hb hr hP hD hS (Nat.zero_le _) (Nat.zero_le _) hlocks dX5_leaks_14
noncomputable def mX5_likeliest (u : KS) : Option (Int32 × KS) :=
  (mX5_noGuesses u).bind fun r1 =>
  if r1.1 = 0 then
  ((mX2_greatest r1.2).bind fun r16 =>
  some (r16, r1.2))
  else
  ((mX5_no r1.2).bind fun r8 =>
  some (r8.1, r8.2))
abbrev rmX5_likeliest : Room := { frames := 10, cells := 0, slots := 0, locals := 217 }
set_option maxRecDepth 100000 in
set_option maxHeartbeats 4000000 in
theorem zX5_likeliest (l : Launch) (D : va_G) (cy : Nat → ClassId) (sa : Nat → Nat) (q : Nat → Nat) (rest : va_W) (sz : Nat) (u : KS) (res : Int32 × KS) (hf : mX5_likeliest u = some res) : kMi l yX5_likeliest (wsK yX5_likeliest cX5_likeliest 1 (some .int)) rmX5_likeliest D cy sa (WX q cy u ++ rest) sz [.ref (q 0)] res.1 (WX q cy res.2 ++ rest) 0 0 := by
  refine kM_of (Qc := fun A => kQi D A res.1 (WX q cy res.2 ++ rest)) (cc := cX5_likeliest) (maxL := 1) (ret := (some .int)) (by decide) (Nat.le_of_ble_eq_true rfl) ?_
  intro p e s m below meth c A hx hb hml hr hts hown hlocks hin hA hP hD hS hE hsz ls hl
  have hown : s.vm.findClass RX5 = some m.cls := hown
  obtain ⟨H, hH0⟩ : ∃ H, H = s.heap := ⟨_, rfl⟩
  obtain ⟨locs, hlocs0⟩ : ∃ locs : List Loc, locs = [] := ⟨_, rfl⟩
  have hP : va_P D vwCl (WX q cy u ++ rest) H := by rw [hH0]; exact hP
  have hS : va_S A s.heap H locs := by rw [hH0, hlocs0]; exact hS
  have hl : lv_has ls 1 [(0, .ref (q 0))] := hl
  suffices hgoal : W p l e rmX5_likeliest s m ([.ref (q 0)] : List Value).toArray below meth c H locs 0 0 (MQ below (kQi D A res.1 (WX q cy res.2 ++ rest)) ([.ref (q 0)] : List Value).toArray s 0 0 A) (F0 m 0 ls []) by rw [hH0, hlocs0] at hgoal; exact hgoal
  clear hH0 hlocs0
  unfold mX5_likeliest at hf
  refine lv_aload_n hx hb dX5_likeliest_0 rfl (lv_at hl 0 rfl) ?_
  obtain ⟨r1, h1r, hf⟩ := o_bs hf
  refine k_goi (va_runV (As := []) (rest := []) ⟨hx, hb, hml, hown, hts⟩ (zX5_noGuesses l D cy sa q rest H.size u  r1 h1r) (cwV 0 hts (gB_V wB368 wB369 wB370 wB2 wB371) rfl rfl rfl (by decide +kernel) ⟨Nat.le_of_ble_eq_true rfl, Nat.le_of_ble_eq_true rfl⟩) ⟨kP.blind, k_recv hE hP (ci := 5) (q0 := 0) rfl rfl, k_pre hP hD hS hE hA⟩ rfl rfl hl.1 rfl (lv_room (Nat.le_of_ble_eq_true rfl)) dX5_likeliest_1 ⟨Nat.zero_le _, Nat.zero_le _⟩) hD hS hA (fun H locs hP hD hS => ?_)
  refine lv_if_eq (tgt := 12) hx hb dX5_likeliest_4 (by decide) (fun c4 => ?_) (fun c4 => ?_)
  · have hf := o_ip c4 hf
    refine lv_aload_n hx hb dX5_likeliest_12 rfl (lv_at hl 0 rfl) ?_
    refine va_get (ci := 5) (v := .ref (q 15)) (C := RX5) (T := TX5) (N := 9) hx hb hts inlX5 hown hE.1 hP 0 rfl rfl 3 (by decide) (hts _ wB25) (fun _ h9 => h9) rfl dX5_likeliest_13 ?_
    obtain ⟨r16, h16r, hf⟩ := o_bs hf
    refine k_goi (va_runV (As := []) (rest := []) ⟨hx, hb, hml, hown, hts⟩ (zX2_greatest l D cy sa q rest H.size r1.2  r16 h16r) (cwV 0 hts (gB_V wB409 wB410 wB411 wB24 wB412) rfl rfl rfl (by decide +kernel) ⟨Nat.le_of_ble_eq_true rfl, Nat.le_of_ble_eq_true rfl⟩) ⟨kP.blind, k_recv hE hP (ci := 2) (q0 := 15) rfl rfl, k_pre hP hD hS hE hA⟩ rfl rfl hl.1 rfl (lv_room (Nat.le_of_ble_eq_true rfl)) dX5_likeliest_16 ⟨Nat.zero_le _, Nat.zero_le _⟩) hD hS hA (fun H locs hP hD hS => ?_)
    obtain rfl := o_ret hf
    exact k_iret hx hb hr hP hD hS (Nat.zero_le _) (Nat.zero_le _) hlocks dX5_likeliest_19
  · have hf := o_in c4 hf
    refine lv_aload_n hx hb dX5_likeliest_7 rfl (lv_at hl 0 rfl) ?_
    obtain ⟨r8, h8r, hf⟩ := o_bs hf
    refine k_goi (va_runV (As := []) (rest := []) ⟨hx, hb, hml, hown, hts⟩ (zX5_no l D cy sa q rest H.size r1.2  r8 h8r) (cwV 0 hts (gB_V wB299 wB300 wB301 wB2 wB302) rfl rfl rfl (by decide +kernel) ⟨Nat.le_of_ble_eq_true rfl, Nat.le_of_ble_eq_true rfl⟩) ⟨kP.blind, k_recv hE hP (ci := 5) (q0 := 0) rfl rfl, k_pre hP hD hS hE hA⟩ rfl rfl hl.1 rfl (lv_room (Nat.le_of_ble_eq_true rfl)) dX5_likeliest_8 ⟨Nat.zero_le _, Nat.zero_le _⟩) hD hS hA (fun H locs hP hD hS => ?_)
    obtain rfl := o_ret hf
    exact k_iret hx hb hr hP hD hS (Nat.zero_le _) (Nat.zero_le _) hlocks dX5_likeliest_11
noncomputable def mX5_limb (u : KS) (a1 : Int32) (a2 : Int32) : Option (Int32 × KS) :=
  if a1 < 0 then
  ((mX5_bad u).bind fun r14 =>
  some (r14.1, r14.2))
  else
  (if 1 < a1 then
  ((mX5_bad u).bind fun r14 =>
  some (r14.1, r14.2))
  else
  (if 0 ≤ a2 then
  ((mX5_signOf u (a1 + 1)).bind fun r23 =>
  if a2 < r23 then
  ((mX1_limbOf u a1 a2).bind fun r37 =>
  some (r37, u))
  else
  (some ((-1), u)))
  else
  ((mX5_bad u).bind fun r14 =>
  some (r14.1, r14.2))))
abbrev rmX5_limb : Room := { frames := 3, cells := 0, slots := 0, locals := 64 }
set_option maxRecDepth 100000 in
set_option maxHeartbeats 4000000 in
theorem zX5_limb (l : Launch) (D : va_G) (cy : Nat → ClassId) (sa : Nat → Nat) (q : Nat → Nat) (rest : va_W) (sz : Nat) (u : KS) (a1 : Int32) (a2 : Int32) (res : Int32 × KS) (hf : mX5_limb u a1 a2 = some res) : kMi l yX5_limb (wsK yX5_limb cX5_limb 3 (some .int)) rmX5_limb D cy sa (WX q cy u ++ rest) sz [.ref (q 0), .int a1, .int a2] res.1 (WX q cy res.2 ++ rest) 0 0 := by
  refine kM_of (Qc := fun A => kQi D A res.1 (WX q cy res.2 ++ rest)) (cc := cX5_limb) (maxL := 3) (ret := (some .int)) (by decide) (Nat.le_of_ble_eq_true rfl) ?_
  intro p e s m below meth c A hx hb hml hr hts hown hlocks hin hA hP hD hS hE hsz ls hl
  have hown : s.vm.findClass RX5 = some m.cls := hown
  obtain ⟨H, hH0⟩ : ∃ H, H = s.heap := ⟨_, rfl⟩
  obtain ⟨locs, hlocs0⟩ : ∃ locs : List Loc, locs = [] := ⟨_, rfl⟩
  have hP : va_P D vwCl (WX q cy u ++ rest) H := by rw [hH0]; exact hP
  have hS : va_S A s.heap H locs := by rw [hH0, hlocs0]; exact hS
  have hl : lv_has ls 3 [(0, .ref (q 0)), (1, .int a1), (2, .int a2)] := hl
  suffices hgoal : W p l e rmX5_limb s m ([.ref (q 0), .int a1, .int a2] : List Value).toArray below meth c H locs 0 0 (MQ below (kQi D A res.1 (WX q cy res.2 ++ rest)) ([.ref (q 0), .int a1, .int a2] : List Value).toArray s 0 0 A) (F0 m 0 ls []) by rw [hH0, hlocs0] at hgoal; exact hgoal
  clear hH0 hlocs0
  unfold mX5_limb at hf
  refine lv_iload_n hx hb dX5_limb_0 rfl (lv_at hl 1 rfl) ?_
  refine lv_if_lt (tgt := 13) hx hb dX5_limb_1 (by decide) (fun c1 => ?_) (fun c1 => ?_)
  · have hf := o_ip c1 hf
    refine lv_aload_n hx hb dX5_limb_13 rfl (lv_at hl 0 rfl) ?_
    obtain ⟨r14, h14r, hf⟩ := o_bs hf
    refine k_goi (va_runV (As := []) (rest := []) ⟨hx, hb, hml, hown, hts⟩ (zX5_bad l D cy sa q rest H.size u  r14 h14r) (cwV 0 hts (gB_V wB102 wB103 wB104 wB2 wB105) rfl rfl rfl (by decide +kernel) ⟨Nat.le_of_ble_eq_true rfl, Nat.le_of_ble_eq_true rfl⟩) ⟨kP.blind, k_recv hE hP (ci := 5) (q0 := 0) rfl rfl, k_pre hP hD hS hE hA⟩ rfl rfl hl.1 rfl (lv_room (Nat.le_of_ble_eq_true rfl)) dX5_limb_14 ⟨Nat.zero_le _, Nat.zero_le _⟩) hD hS hA (fun H locs hP hD hS => ?_)
    obtain rfl := o_ret hf
    exact k_iret hx hb hr hP hD hS (Nat.zero_le _) (Nat.zero_le _) hlocks dX5_limb_17
  · have hf := o_in c1 hf
    refine lv_iload_n hx hb dX5_limb_4 rfl (lv_at hl 1 rfl) ?_
    refine lv_iconst (v := 1) hx hb dX5_limb_5 (by decide) ?_
    refine lv_icmp_gt (tgt := 13) hx hb dX5_limb_6 (by decide) (fun c6 => ?_) (fun c6 => ?_)
    · have hf := o_ip c6 hf
      refine lv_aload_n hx hb dX5_limb_13 rfl (lv_at hl 0 rfl) ?_
      obtain ⟨r14, h14r, hf⟩ := o_bs hf
      refine k_goi (va_runV (As := []) (rest := []) ⟨hx, hb, hml, hown, hts⟩ (zX5_bad l D cy sa q rest H.size u  r14 h14r) (cwV 0 hts (gB_V wB102 wB103 wB104 wB2 wB105) rfl rfl rfl (by decide +kernel) ⟨Nat.le_of_ble_eq_true rfl, Nat.le_of_ble_eq_true rfl⟩) ⟨kP.blind, k_recv hE hP (ci := 5) (q0 := 0) rfl rfl, k_pre hP hD hS hE hA⟩ rfl rfl hl.1 rfl (lv_room (Nat.le_of_ble_eq_true rfl)) dX5_limb_14 ⟨Nat.zero_le _, Nat.zero_le _⟩) hD hS hA (fun H locs hP hD hS => ?_)
      obtain rfl := o_ret hf
      exact k_iret hx hb hr hP hD hS (Nat.zero_le _) (Nat.zero_le _) hlocks dX5_limb_17
    · have hf := o_in c6 hf
      refine lv_iload_n hx hb dX5_limb_9 rfl (lv_at hl 2 rfl) ?_
      refine lv_if_ge (tgt := 18) hx hb dX5_limb_10 (by decide) (fun c10 => ?_) (fun c10 => ?_)
      · have hf := o_ip c10 hf
        refine lv_iload_n hx hb dX5_limb_18 rfl (lv_at hl 2 rfl) ?_
        refine lv_aload_n hx hb dX5_limb_19 rfl (lv_at hl 0 rfl) ?_
        refine lv_iload_n hx hb dX5_limb_20 rfl (lv_at hl 1 rfl) ?_
        refine lv_iconst (v := 1) hx hb dX5_limb_21 (by decide) ?_
        refine lv_iadd hx hb dX5_limb_22 ?_
        obtain ⟨r23, h23r, hf⟩ := o_bs hf
        refine k_goi (va_runV (As := [.int (a1 + 1)]) (rest := [.int a2]) ⟨hx, hb, hml, hown, hts⟩ (zX5_signOf l D cy sa q rest H.size u (a1 + 1) r23 h23r) (cwV 1 hts (gB_V wB449 wB450 wB451 wB2 wB452) rfl rfl rfl (by decide +kernel) ⟨Nat.le_of_ble_eq_true rfl, Nat.le_of_ble_eq_true rfl⟩) ⟨kP.blind, k_recv hE hP (ci := 5) (q0 := 0) rfl rfl, k_pre hP hD hS hE hA⟩ rfl rfl hl.1 rfl (lv_room (Nat.le_of_ble_eq_true rfl)) dX5_limb_23 ⟨Nat.zero_le _, Nat.zero_le _⟩) hD hS hA (fun H locs hP hD hS => ?_)
        refine lv_icmp_lt (tgt := 31) hx hb dX5_limb_26 (by decide) (fun c26 => ?_) (fun c26 => ?_)
        · have hf := o_ip c26 hf
          refine lv_aload_n hx hb dX5_limb_31 rfl (lv_at hl 0 rfl) ?_
          refine va_get (ci := 5) (v := .ref (q 21)) (C := RX5) (T := TX5) (N := 9) hx hb hts inlX5 hown hE.1 hP 0 rfl rfl 5 (by decide) (hts _ wB33) (fun _ h9 => h9) rfl dX5_limb_32 ?_
          refine lv_iload_n hx hb dX5_limb_35 rfl (lv_at hl 1 rfl) ?_
          refine lv_iload_n hx hb dX5_limb_36 rfl (lv_at hl 2 rfl) ?_
          obtain ⟨r37, h37r, hf⟩ := o_bs hf
          refine k_goi (va_runV (As := [.int a1, .int a2]) (rest := []) ⟨hx, hb, hml, hown, hts⟩ (zX1_limbOf l D cy sa q rest H.size u a1 a2 r37 h37r) (cwV 2 hts (gB_V wB462 wB463 wB464 wB32 wB465) rfl rfl rfl (by decide +kernel) ⟨Nat.le_of_ble_eq_true rfl, Nat.le_of_ble_eq_true rfl⟩) ⟨kP.blind, k_recv hE hP (ci := 1) (q0 := 21) rfl rfl, k_pre hP hD hS hE hA⟩ rfl rfl hl.1 rfl (lv_room (Nat.le_of_ble_eq_true rfl)) dX5_limb_37 ⟨Nat.zero_le _, Nat.zero_le _⟩) hD hS hA (fun H locs hP hD hS => ?_)
          obtain rfl := o_ret hf
          exact k_iret hx hb hr hP hD hS (Nat.zero_le _) (Nat.zero_le _) hlocks dX5_limb_40
        · have hf := o_in c26 hf
          refine lv_iconst (v := (-1)) hx hb dX5_limb_29 (by decide) ?_
          obtain rfl := o_ret hf
          exact k_iret hx hb hr hP hD hS (Nat.zero_le _) (Nat.zero_le _) hlocks dX5_limb_30
      · have hf := o_in c10 hf
        refine lv_aload_n hx hb dX5_limb_13 rfl (lv_at hl 0 rfl) ?_
        obtain ⟨r14, h14r, hf⟩ := o_bs hf
        refine k_goi (va_runV (As := []) (rest := []) ⟨hx, hb, hml, hown, hts⟩ (zX5_bad l D cy sa q rest H.size u  r14 h14r) (cwV 0 hts (gB_V wB102 wB103 wB104 wB2 wB105) rfl rfl rfl (by decide +kernel) ⟨Nat.le_of_ble_eq_true rfl, Nat.le_of_ble_eq_true rfl⟩) ⟨kP.blind, k_recv hE hP (ci := 5) (q0 := 0) rfl rfl, k_pre hP hD hS hE hA⟩ rfl rfl hl.1 rfl (lv_room (Nat.le_of_ble_eq_true rfl)) dX5_limb_14 ⟨Nat.zero_le _, Nat.zero_le _⟩) hD hS hA (fun H locs hP hD hS => ?_)
        obtain rfl := o_ret hf
        exact k_iret hx hb hr hP hD hS (Nat.zero_le _) (Nat.zero_le _) hlocks dX5_limb_17
noncomputable def mX5_look (u : KS) (a1 : Int32) (a2 : Int32) (a3 : Int32) (a4 : Int32) : Option (Int32 × KS) :=
  if a1 < 0 then
  ((mX5_bad u).bind fun r48 =>
  some (r48.1, r48.2))
  else
  (if 120 ≤ a1 then
  ((mX5_bad u).bind fun r48 =>
  some (r48.1, r48.2))
  else
  ((mX5_isColor a2).bind fun r11 =>
  if r11 = 0 then
  ((mX5_bad u).bind fun r48 =>
  some (r48.1, r48.2))
  else
  ((mX5_isCut a3).bind fun r18 =>
  if r18 = 0 then
  ((mX5_bad u).bind fun r48 =>
  some (r48.1, r48.2))
  else
  (if a4 < 0 then
  ((mX5_bad u).bind fun r48 =>
  some (r48.1, r48.2))
  else
  (if a4 < 3 then
  (if (gI u 3) < 8 then
  ((mX5_set 32 (gR u 5) ((gI u 3) * 4) a1).bind fun r90 =>
  (mX5_set 32 r90 (((gI u 3) * 4) + 1) a2).bind fun r105 =>
  (mX5_set 32 r105 (((gI u 3) * 4) + 2) a3).bind fun r120 =>
  (mX5_set 32 r120 (((gI u 3) * 4) + 3) a4).bind fun r136 =>
  some ((gI u 3), (sR (sI (sI u 1 1) 3 ((gI u 3) + 1)) 5 r136)))
  else
  ((mX5_full u).bind fun r65 =>
  some (r65.1, r65.2)))
  else
  ((mX5_bad u).bind fun r48 =>
  some (r48.1, r48.2)))))))
abbrev rmX5_look : Room := { frames := 3, cells := 0, slots := 0, locals := 64 }
set_option maxRecDepth 100000 in
set_option maxHeartbeats 4000000 in
theorem zX5_look (l : Launch) (D : va_G) (cy : Nat → ClassId) (sa : Nat → Nat) (q : Nat → Nat) (rest : va_W) (sz : Nat) (u : KS) (a1 : Int32) (a2 : Int32) (a3 : Int32) (a4 : Int32) (res : Int32 × KS) (hf : mX5_look u a1 a2 a3 a4 = some res) : kMi l yX5_look (wsK yX5_look cX5_look 7 (some .int)) rmX5_look D cy sa (WX q cy u ++ rest) sz [.ref (q 0), .int a1, .int a2, .int a3, .int a4] res.1 (WX q cy res.2 ++ rest) 0 0 := by
  refine kM_of (Qc := fun A => kQi D A res.1 (WX q cy res.2 ++ rest)) (cc := cX5_look) (maxL := 7) (ret := (some .int)) (by decide) (Nat.le_of_ble_eq_true rfl) ?_
  intro p e s m below meth c A hx hb hml hr hts hown hlocks hin hA hP hD hS hE hsz ls hl
  have hown : s.vm.findClass RX5 = some m.cls := hown
  obtain ⟨H, hH0⟩ : ∃ H, H = s.heap := ⟨_, rfl⟩
  obtain ⟨locs, hlocs0⟩ : ∃ locs : List Loc, locs = [] := ⟨_, rfl⟩
  have hP : va_P D vwCl (WX q cy u ++ rest) H := by rw [hH0]; exact hP
  have hS : va_S A s.heap H locs := by rw [hH0, hlocs0]; exact hS
  have hl : lv_has ls 7 [(0, .ref (q 0)), (1, .int a1), (2, .int a2), (3, .int a3), (4, .int a4)] := hl
  suffices hgoal : W p l e rmX5_look s m ([.ref (q 0), .int a1, .int a2, .int a3, .int a4] : List Value).toArray below meth c H locs 0 0 (MQ below (kQi D A res.1 (WX q cy res.2 ++ rest)) ([.ref (q 0), .int a1, .int a2, .int a3, .int a4] : List Value).toArray s 0 0 A) (F0 m 0 ls []) by rw [hH0, hlocs0] at hgoal; exact hgoal
  clear hH0 hlocs0
  unfold mX5_look at hf
  refine lv_iload_n hx hb dX5_look_0 rfl (lv_at hl 1 rfl) ?_
  refine lv_if_lt (tgt := 28) hx hb dX5_look_1 (by decide) (fun c1 => ?_) (fun c1 => ?_)
  · have hf := o_ip c1 hf
    refine lv_iconst (v := 0) hx hb dX5_look_28 (by decide) ?_
    refine lv_istore (lv' := [(5, .int 0), (0, .ref (q 0)), (1, .int a1), (2, .int a2), (3, .int a3), (4, .int a4)]) hx hb dX5_look_29 hl (by decide) rfl (fun ls hl => ?_)
    refine lv_iload hx hb dX5_look_31 (lv_at hl 0 rfl) ?_
    refine lv_if_eq (tgt := 47) hx hb dX5_look_33 (by decide) (fun c33 => ?_) (fun c33 => absurd c33 (by decide))
    refine lv_aload_n hx hb dX5_look_47 rfl (lv_at hl 1 rfl) ?_
    obtain ⟨r48, h48r, hf⟩ := o_bs hf
    refine k_goi (va_runV (As := []) (rest := []) ⟨hx, hb, hml, hown, hts⟩ (zX5_bad l D cy sa q rest H.size u  r48 h48r) (cwV 0 hts (gB_V wB102 wB103 wB104 wB2 wB105) rfl rfl rfl (by decide +kernel) ⟨Nat.le_of_ble_eq_true rfl, Nat.le_of_ble_eq_true rfl⟩) ⟨kP.blind, k_recv hE hP (ci := 5) (q0 := 0) rfl rfl, k_pre hP hD hS hE hA⟩ rfl rfl hl.1 rfl (lv_room (Nat.le_of_ble_eq_true rfl)) dX5_look_48 ⟨Nat.zero_le _, Nat.zero_le _⟩) hD hS hA (fun H locs hP hD hS => ?_)
    obtain rfl := o_ret hf
    exact k_iret hx hb hr hP hD hS (Nat.zero_le _) (Nat.zero_le _) hlocks dX5_look_51
  · have hf := o_in c1 hf
    refine lv_iload_n hx hb dX5_look_4 rfl (lv_at hl 1 rfl) ?_
    refine lv_bipush (v := 120) hx hb dX5_look_5 (by decide) ?_
    refine lv_icmp_ge (tgt := 28) hx hb dX5_look_7 (by decide) (fun c7 => ?_) (fun c7 => ?_)
    · have hf := o_ip c7 hf
      refine lv_iconst (v := 0) hx hb dX5_look_28 (by decide) ?_
      refine lv_istore (lv' := [(5, .int 0), (0, .ref (q 0)), (1, .int a1), (2, .int a2), (3, .int a3), (4, .int a4)]) hx hb dX5_look_29 hl (by decide) rfl (fun ls hl => ?_)
      refine lv_iload hx hb dX5_look_31 (lv_at hl 0 rfl) ?_
      refine lv_if_eq (tgt := 47) hx hb dX5_look_33 (by decide) (fun c33 => ?_) (fun c33 => absurd c33 (by decide))
      refine lv_aload_n hx hb dX5_look_47 rfl (lv_at hl 1 rfl) ?_
      obtain ⟨r48, h48r, hf⟩ := o_bs hf
      refine k_goi (va_runV (As := []) (rest := []) ⟨hx, hb, hml, hown, hts⟩ (zX5_bad l D cy sa q rest H.size u  r48 h48r) (cwV 0 hts (gB_V wB102 wB103 wB104 wB2 wB105) rfl rfl rfl (by decide +kernel) ⟨Nat.le_of_ble_eq_true rfl, Nat.le_of_ble_eq_true rfl⟩) ⟨kP.blind, k_recv hE hP (ci := 5) (q0 := 0) rfl rfl, k_pre hP hD hS hE hA⟩ rfl rfl hl.1 rfl (lv_room (Nat.le_of_ble_eq_true rfl)) dX5_look_48 ⟨Nat.zero_le _, Nat.zero_le _⟩) hD hS hA (fun H locs hP hD hS => ?_)
      obtain rfl := o_ret hf
      exact k_iret hx hb hr hP hD hS (Nat.zero_le _) (Nat.zero_le _) hlocks dX5_look_51
    · have hf := o_in c7 hf
      refine lv_iload_n hx hb dX5_look_10 rfl (lv_at hl 2 rfl) ?_
      obtain ⟨r11, h11r, hf⟩ := o_bs hf
      refine k_goi (va_runS (As := [.int a2]) (rest := []) ⟨hx, hb, hml, hown, hts⟩ (zX5_isColor l D cy sa (WX q cy u ++ rest) H.size a2  r11  h11r) (va_cwS 1 hts (gB_S wB284 wB285 wB2 wB286) rfl rfl rfl (by decide +kernel) ⟨Nat.le_of_ble_eq_true rfl, Nat.le_of_ble_eq_true rfl⟩) ⟨kP.blind, k_pre hP hD hS hE hA⟩ rfl rfl hl.1 rfl (lv_room (Nat.le_of_ble_eq_true rfl)) dX5_look_11 ⟨Nat.zero_le _, Nat.zero_le _⟩) hD hS hA (fun H locs hP hD hS => ?_)
      refine lv_if_eq (tgt := 28) hx hb dX5_look_14 (by decide) (fun c14 => ?_) (fun c14 => ?_)
      · have hf := o_ip c14 hf
        refine lv_iconst (v := 0) hx hb dX5_look_28 (by decide) ?_
        refine lv_istore (lv' := [(5, .int 0), (0, .ref (q 0)), (1, .int a1), (2, .int a2), (3, .int a3), (4, .int a4)]) hx hb dX5_look_29 hl (by decide) rfl (fun ls hl => ?_)
        refine lv_iload hx hb dX5_look_31 (lv_at hl 0 rfl) ?_
        refine lv_if_eq (tgt := 47) hx hb dX5_look_33 (by decide) (fun c33 => ?_) (fun c33 => absurd c33 (by decide))
        refine lv_aload_n hx hb dX5_look_47 rfl (lv_at hl 1 rfl) ?_
        obtain ⟨r48, h48r, hf⟩ := o_bs hf
        refine k_goi (va_runV (As := []) (rest := []) ⟨hx, hb, hml, hown, hts⟩ (zX5_bad l D cy sa q rest H.size u  r48 h48r) (cwV 0 hts (gB_V wB102 wB103 wB104 wB2 wB105) rfl rfl rfl (by decide +kernel) ⟨Nat.le_of_ble_eq_true rfl, Nat.le_of_ble_eq_true rfl⟩) ⟨kP.blind, k_recv hE hP (ci := 5) (q0 := 0) rfl rfl, k_pre hP hD hS hE hA⟩ rfl rfl hl.1 rfl (lv_room (Nat.le_of_ble_eq_true rfl)) dX5_look_48 ⟨Nat.zero_le _, Nat.zero_le _⟩) hD hS hA (fun H locs hP hD hS => ?_)
        obtain rfl := o_ret hf
        exact k_iret hx hb hr hP hD hS (Nat.zero_le _) (Nat.zero_le _) hlocks dX5_look_51
      · have hf := o_in c14 hf
        refine lv_iload_n hx hb dX5_look_17 rfl (lv_at hl 3 rfl) ?_
        obtain ⟨r18, h18r, hf⟩ := o_bs hf
        refine k_goi (va_runS (As := [.int a3]) (rest := []) ⟨hx, hb, hml, hown, hts⟩ (zX5_isCut l D cy sa (WX q cy u ++ rest) H.size a3  r18  h18r) (va_cwS 1 hts (gB_S wB287 wB288 wB2 wB289) rfl rfl rfl (by decide +kernel) ⟨Nat.le_of_ble_eq_true rfl, Nat.le_of_ble_eq_true rfl⟩) ⟨kP.blind, k_pre hP hD hS hE hA⟩ rfl rfl hl.1 rfl (lv_room (Nat.le_of_ble_eq_true rfl)) dX5_look_18 ⟨Nat.zero_le _, Nat.zero_le _⟩) hD hS hA (fun H locs hP hD hS => ?_)
        refine lv_if_eq (tgt := 28) hx hb dX5_look_21 (by decide) (fun c21 => ?_) (fun c21 => ?_)
        · have hf := o_ip c21 hf
          refine lv_iconst (v := 0) hx hb dX5_look_28 (by decide) ?_
          refine lv_istore (lv' := [(5, .int 0), (0, .ref (q 0)), (1, .int a1), (2, .int a2), (3, .int a3), (4, .int a4)]) hx hb dX5_look_29 hl (by decide) rfl (fun ls hl => ?_)
          refine lv_iload hx hb dX5_look_31 (lv_at hl 0 rfl) ?_
          refine lv_if_eq (tgt := 47) hx hb dX5_look_33 (by decide) (fun c33 => ?_) (fun c33 => absurd c33 (by decide))
          refine lv_aload_n hx hb dX5_look_47 rfl (lv_at hl 1 rfl) ?_
          obtain ⟨r48, h48r, hf⟩ := o_bs hf
          refine k_goi (va_runV (As := []) (rest := []) ⟨hx, hb, hml, hown, hts⟩ (zX5_bad l D cy sa q rest H.size u  r48 h48r) (cwV 0 hts (gB_V wB102 wB103 wB104 wB2 wB105) rfl rfl rfl (by decide +kernel) ⟨Nat.le_of_ble_eq_true rfl, Nat.le_of_ble_eq_true rfl⟩) ⟨kP.blind, k_recv hE hP (ci := 5) (q0 := 0) rfl rfl, k_pre hP hD hS hE hA⟩ rfl rfl hl.1 rfl (lv_room (Nat.le_of_ble_eq_true rfl)) dX5_look_48 ⟨Nat.zero_le _, Nat.zero_le _⟩) hD hS hA (fun H locs hP hD hS => ?_)
          obtain rfl := o_ret hf
          exact k_iret hx hb hr hP hD hS (Nat.zero_le _) (Nat.zero_le _) hlocks dX5_look_51
        · have hf := o_in c21 hf
          refine lv_iconst (v := 1) hx hb dX5_look_24 (by decide) ?_
          refine lv_goto (tgt := 29) hx hb dX5_look_25 (by decide) ?_
          refine lv_istore (lv' := [(5, .int 1), (0, .ref (q 0)), (1, .int a1), (2, .int a2), (3, .int a3), (4, .int a4)]) hx hb dX5_look_29 hl (by decide) rfl (fun ls hl => ?_)
          refine lv_iload hx hb dX5_look_31 (lv_at hl 0 rfl) ?_
          refine lv_if_eq (tgt := 47) hx hb dX5_look_33 (by decide) (fun c33 => absurd c33 (by decide)) (fun c33 => ?_)
          refine lv_iload hx hb dX5_look_36 (lv_at hl 5 rfl) ?_
          refine lv_if_lt (tgt := 47) hx hb dX5_look_38 (by decide) (fun c38 => ?_) (fun c38 => ?_)
          · have hf := o_ip c38 hf
            refine lv_aload_n hx hb dX5_look_47 rfl (lv_at hl 1 rfl) ?_
            obtain ⟨r48, h48r, hf⟩ := o_bs hf
            refine k_goi (va_runV (As := []) (rest := []) ⟨hx, hb, hml, hown, hts⟩ (zX5_bad l D cy sa q rest H.size u  r48 h48r) (cwV 0 hts (gB_V wB102 wB103 wB104 wB2 wB105) rfl rfl rfl (by decide +kernel) ⟨Nat.le_of_ble_eq_true rfl, Nat.le_of_ble_eq_true rfl⟩) ⟨kP.blind, k_recv hE hP (ci := 5) (q0 := 0) rfl rfl, k_pre hP hD hS hE hA⟩ rfl rfl hl.1 rfl (lv_room (Nat.le_of_ble_eq_true rfl)) dX5_look_48 ⟨Nat.zero_le _, Nat.zero_le _⟩) hD hS hA (fun H locs hP hD hS => ?_)
            obtain rfl := o_ret hf
            exact k_iret hx hb hr hP hD hS (Nat.zero_le _) (Nat.zero_le _) hlocks dX5_look_51
          · have hf := o_in c38 hf
            refine lv_iload hx hb dX5_look_41 (lv_at hl 5 rfl) ?_
            refine lv_iconst (v := 3) hx hb dX5_look_43 (by decide) ?_
            refine lv_icmp_lt (tgt := 52) hx hb dX5_look_44 (by decide) (fun c44 => ?_) (fun c44 => ?_)
            · have hf := o_ip c44 hf
              refine lv_aload_n hx hb dX5_look_52 rfl (lv_at hl 1 rfl) ?_
              refine va_get (ci := 5) (v := .ref (q 3)) (C := RX5) (T := TX5) (N := 9) hx hb hts inlX5 hown hE.1 hP 0 rfl rfl 0 (by decide) (hts _ wB16) (fun _ h9 => h9) rfl dX5_look_53 ?_
              refine va_get (ci := 3) (v := .int (gI u 3)) (C := RX3) (T := TX3) (N := 9) hx hb hts inlX3 hown hE.1 hP 3 rfl rfl 6 (by decide) (hts _ wB282) (fun _ h9 => h9) rfl dX5_look_56 ?_
              refine lv_bipush (v := 8) hx hb dX5_look_59 (by decide) ?_
              refine lv_icmp_lt (tgt := 69) hx hb dX5_look_61 (by decide) (fun c61 => ?_) (fun c61 => ?_)
              · have hf := o_ip c61 hf
                refine lv_aload_n hx hb dX5_look_69 rfl (lv_at hl 1 rfl) ?_
                refine va_get (ci := 5) (v := .ref (q 3)) (C := RX5) (T := TX5) (N := 9) hx hb hts inlX5 hown hE.1 hP 0 rfl rfl 0 (by decide) (hts _ wB16) (fun _ h9 => h9) rfl dX5_look_70 ?_
                refine va_get (ci := 3) (v := .int (gI u 3)) (C := RX3) (T := TX3) (N := 9) hx hb hts inlX3 hown hE.1 hP 3 rfl rfl 6 (by decide) (hts _ wB282) (fun _ h9 => h9) rfl dX5_look_73 ?_
                refine lv_iconst (v := 4) hx hb dX5_look_76 (by decide) ?_
                refine lv_imul hx hb dX5_look_77 ?_
                refine lv_istore (lv' := [(6, .int ((gI u 3) * 4)), (5, .int 1), (0, .ref (q 0)), (1, .int a1), (2, .int a2), (3, .int a3), (4, .int a4)]) hx hb dX5_look_78 hl (by decide) rfl (fun ls hl => ?_)
                refine lv_aload_n hx hb dX5_look_80 rfl (lv_at hl 2 rfl) ?_
                refine va_get (ci := 5) (v := .ref (q 3)) (C := RX5) (T := TX5) (N := 9) hx hb hts inlX5 hown hE.1 hP 0 rfl rfl 0 (by decide) (hts _ wB16) (fun _ h9 => h9) rfl dX5_look_81 ?_
                refine va_get (ci := 3) (v := .ref (q 8)) (C := RX3) (T := TX3) (N := 9) hx hb hts inlX3 hown hE.1 hP 3 rfl rfl 5 (by decide) (hts _ wB283) (fun _ h9 => h9) rfl dX5_look_84 ?_
                refine lv_iload hx hb dX5_look_87 (lv_at hl 0 rfl) ?_
                refine lv_iload_n hx hb dX5_look_89 rfl (lv_at hl 3 rfl) ?_
                obtain ⟨r90, h90r, hf⟩ := o_bs hf
                refine k_gov (va_runS (As := [.ref (q 8), .int ((gI u 3) * 4), .int a1]) (rest := []) ⟨hx, hb, hml, hown, hts⟩ (zX5_set l D cy sa (WX q cy u ++ rest) H.size 8 (q 8) 32 (gR u 5) ((gI u 3) * 4) a1 r90 rfl h90r) (va_cwS 3 hts (gB_S wB113 wB114 wB2 wB115) rfl rfl rfl (by decide +kernel) ⟨Nat.le_of_ble_eq_true rfl, Nat.le_of_ble_eq_true rfl⟩) ⟨kP.blind, k_pre hP hD hS hE hA⟩ rfl rfl hl.1 rfl (lv_room (Nat.le_of_ble_eq_true rfl)) dX5_look_90 ⟨Nat.zero_le _, Nat.zero_le _⟩) hD hS hA (fun H locs hP hD hS => ?_)
                have hP : va_P D vwCl (WX q cy (sR u 5 r90) ++ rest) H := hP
                have hD : va_D A (WX q cy (sR u 5 r90) ++ rest) := hD
                refine lv_aload_n hx hb dX5_look_93 rfl (lv_at hl 2 rfl) ?_
                refine va_get (ci := 5) (v := .ref (q 3)) (C := RX5) (T := TX5) (N := 9) hx hb hts inlX5 hown hE.1 hP 0 rfl rfl 0 (by decide) (hts _ wB16) (fun _ h9 => h9) rfl dX5_look_94 ?_
                refine va_get (ci := 3) (v := .ref (q 8)) (C := RX3) (T := TX3) (N := 9) hx hb hts inlX3 hown hE.1 hP 3 rfl rfl 5 (by decide) (hts _ wB283) (fun _ h9 => h9) rfl dX5_look_97 ?_
                refine lv_iload hx hb dX5_look_100 (lv_at hl 0 rfl) ?_
                refine lv_iconst (v := 1) hx hb dX5_look_102 (by decide) ?_
                refine lv_iadd hx hb dX5_look_103 ?_
                refine lv_iload_n hx hb dX5_look_104 rfl (lv_at hl 4 rfl) ?_
                obtain ⟨r105, h105r, hf⟩ := o_bs hf
                refine k_gov (va_runS (As := [.ref (q 8), .int (((gI u 3) * 4) + 1), .int a2]) (rest := []) ⟨hx, hb, hml, hown, hts⟩ (zX5_set l D cy sa (WX q cy (sR u 5 r90) ++ rest) H.size 8 (q 8) 32 r90 (((gI u 3) * 4) + 1) a2 r105 rfl h105r) (va_cwS 3 hts (gB_S wB113 wB114 wB2 wB115) rfl rfl rfl (by decide +kernel) ⟨Nat.le_of_ble_eq_true rfl, Nat.le_of_ble_eq_true rfl⟩) ⟨kP.blind, k_pre hP hD hS hE hA⟩ rfl rfl hl.1 rfl (lv_room (Nat.le_of_ble_eq_true rfl)) dX5_look_105 ⟨Nat.zero_le _, Nat.zero_le _⟩) hD hS hA (fun H locs hP hD hS => ?_)
                have hQ : ∀ (xb : KS) (x0 : (Nat → Int32)) (xn : (Nat → Int32)), (WX q cy (sR xb 5 x0) ++ rest).set 8 (q 8, .inl (cy 0, 32, .inl xn)) = WX q cy (sR xb 5 xn) ++ rest := fun _ _ _ => rfl
                have hP : va_P D vwCl (WX q cy (sR u 5 r105) ++ rest) H := k_wP (hQ u r90 r105) hP
                have hD : va_D A (WX q cy (sR u 5 r105) ++ rest) := k_wD (hQ u r90 r105) hD
                clear hQ
                refine lv_aload_n hx hb dX5_look_108 rfl (lv_at hl 2 rfl) ?_
                refine va_get (ci := 5) (v := .ref (q 3)) (C := RX5) (T := TX5) (N := 9) hx hb hts inlX5 hown hE.1 hP 0 rfl rfl 0 (by decide) (hts _ wB16) (fun _ h9 => h9) rfl dX5_look_109 ?_
                refine va_get (ci := 3) (v := .ref (q 8)) (C := RX3) (T := TX3) (N := 9) hx hb hts inlX3 hown hE.1 hP 3 rfl rfl 5 (by decide) (hts _ wB283) (fun _ h9 => h9) rfl dX5_look_112 ?_
                refine lv_iload hx hb dX5_look_115 (lv_at hl 0 rfl) ?_
                refine lv_iconst (v := 2) hx hb dX5_look_117 (by decide) ?_
                refine lv_iadd hx hb dX5_look_118 ?_
                refine lv_iload_n hx hb dX5_look_119 rfl (lv_at hl 5 rfl) ?_
                obtain ⟨r120, h120r, hf⟩ := o_bs hf
                refine k_gov (va_runS (As := [.ref (q 8), .int (((gI u 3) * 4) + 2), .int a3]) (rest := []) ⟨hx, hb, hml, hown, hts⟩ (zX5_set l D cy sa (WX q cy (sR u 5 r105) ++ rest) H.size 8 (q 8) 32 r105 (((gI u 3) * 4) + 2) a3 r120 rfl h120r) (va_cwS 3 hts (gB_S wB113 wB114 wB2 wB115) rfl rfl rfl (by decide +kernel) ⟨Nat.le_of_ble_eq_true rfl, Nat.le_of_ble_eq_true rfl⟩) ⟨kP.blind, k_pre hP hD hS hE hA⟩ rfl rfl hl.1 rfl (lv_room (Nat.le_of_ble_eq_true rfl)) dX5_look_120 ⟨Nat.zero_le _, Nat.zero_le _⟩) hD hS hA (fun H locs hP hD hS => ?_)
                have hQ : ∀ (xb : KS) (x0 : (Nat → Int32)) (xn : (Nat → Int32)), (WX q cy (sR xb 5 x0) ++ rest).set 8 (q 8, .inl (cy 0, 32, .inl xn)) = WX q cy (sR xb 5 xn) ++ rest := fun _ _ _ => rfl
                have hP : va_P D vwCl (WX q cy (sR u 5 r120) ++ rest) H := k_wP (hQ u r105 r120) hP
                have hD : va_D A (WX q cy (sR u 5 r120) ++ rest) := k_wD (hQ u r105 r120) hD
                clear hQ
                refine lv_aload_n hx hb dX5_look_123 rfl (lv_at hl 2 rfl) ?_
                refine va_get (ci := 5) (v := .ref (q 3)) (C := RX5) (T := TX5) (N := 9) hx hb hts inlX5 hown hE.1 hP 0 rfl rfl 0 (by decide) (hts _ wB16) (fun _ h9 => h9) rfl dX5_look_124 ?_
                refine va_get (ci := 3) (v := .ref (q 8)) (C := RX3) (T := TX3) (N := 9) hx hb hts inlX3 hown hE.1 hP 3 rfl rfl 5 (by decide) (hts _ wB283) (fun _ h9 => h9) rfl dX5_look_127 ?_
                refine lv_iload hx hb dX5_look_130 (lv_at hl 0 rfl) ?_
                refine lv_iconst (v := 3) hx hb dX5_look_132 (by decide) ?_
                refine lv_iadd hx hb dX5_look_133 ?_
                refine lv_iload hx hb dX5_look_134 (lv_at hl 6 rfl) ?_
                obtain ⟨r136, h136r, hf⟩ := o_bs hf
                refine k_gov (va_runS (As := [.ref (q 8), .int (((gI u 3) * 4) + 3), .int a4]) (rest := []) ⟨hx, hb, hml, hown, hts⟩ (zX5_set l D cy sa (WX q cy (sR u 5 r120) ++ rest) H.size 8 (q 8) 32 r120 (((gI u 3) * 4) + 3) a4 r136 rfl h136r) (va_cwS 3 hts (gB_S wB113 wB114 wB2 wB115) rfl rfl rfl (by decide +kernel) ⟨Nat.le_of_ble_eq_true rfl, Nat.le_of_ble_eq_true rfl⟩) ⟨kP.blind, k_pre hP hD hS hE hA⟩ rfl rfl hl.1 rfl (lv_room (Nat.le_of_ble_eq_true rfl)) dX5_look_136 ⟨Nat.zero_le _, Nat.zero_le _⟩) hD hS hA (fun H locs hP hD hS => ?_)
                have hQ : ∀ (xb : KS) (x0 : (Nat → Int32)) (xn : (Nat → Int32)), (WX q cy (sR xb 5 x0) ++ rest).set 8 (q 8, .inl (cy 0, 32, .inl xn)) = WX q cy (sR xb 5 xn) ++ rest := fun _ _ _ => rfl
                have hP : va_P D vwCl (WX q cy (sR u 5 r136) ++ rest) H := k_wP (hQ u r120 r136) hP
                have hD : va_D A (WX q cy (sR u 5 r136) ++ rest) := k_wD (hQ u r120 r136) hD
                clear hQ
                refine lv_aload_n hx hb dX5_look_139 rfl (lv_at hl 2 rfl) ?_
                refine lv_iconst (v := 1) hx hb dX5_look_140 (by decide) ?_
                refine va_put (ci := 5) (v := .int 1) (ty := .boolean) (C := RX5) (T := TX5) (N := 9) hx hb hts inlX5 tyX5 tyX5_ok nmX5 hown hE.1 hP hD hS 0 rfl rfl 8 (by decide) (hts _ wB37) (fun _ h9 => h9) rfl (by decide +kernel) rfl rfl (Nat.le_of_ble_eq_true rfl) dX5_look_141 (fun H locs hP hD hS => ?_)
                have hQ : ∀ (xb : KS) (x0 : (Nat → Int32)) (xn : Int32), (WX q cy (sR xb 5 x0) ++ rest).set 0 (q 0, .inr (5, [.ref (q 3), .ref (q 1), .ref (q 10), .ref (q 15), .ref (q 19), .ref (q 21), .ref (q 2), .int (gI (sR xb 5 x0) 0), .int (gI (sR xb 5 x0) 1)].set 8 (.int xn))) = WX q cy (sR (sI xb 1 xn) 5 x0) ++ rest := fun _ _ _ => rfl
                have hP : va_P D vwCl (WX q cy (sR (sI u 1 1) 5 r136) ++ rest) H := k_wP (hQ u r136 1) hP
                have hD : va_D A (WX q cy (sR (sI u 1 1) 5 r136) ++ rest) := k_wD (hQ u r136 1) hD
                clear hQ
                refine lv_aload_n hx hb dX5_look_144 rfl (lv_at hl 2 rfl) ?_
                refine va_get (ci := 5) (v := .ref (q 3)) (C := RX5) (T := TX5) (N := 9) hx hb hts inlX5 hown hE.1 hP 0 rfl rfl 0 (by decide) (hts _ wB16) (fun _ h9 => h9) rfl dX5_look_145 ?_
                refine lv_dup hx hb dX5_look_148 rfl ?_
                refine va_get (ci := 3) (v := .int (gI u 3)) (C := RX3) (T := TX3) (N := 9) hx hb hts inlX3 hown hE.1 hP 3 rfl rfl 6 (by decide) (hts _ wB282) (fun _ h9 => h9) rfl dX5_look_149 ?_
                refine lv_dup_x1 hx hb dX5_look_152 rfl rfl ?_
                refine lv_iconst (v := 1) hx hb dX5_look_153 (by decide) ?_
                refine lv_iadd hx hb dX5_look_154 ?_
                refine va_put (ci := 3) (v := .int ((gI u 3) + 1)) (ty := .int) (C := RX3) (T := TX3) (N := 9) hx hb hts inlX3 tyX3 tyX3_ok nmX3 hown hE.1 hP hD hS 3 rfl rfl 6 (by decide) (hts _ wB282) (fun _ h9 => h9) rfl (by decide +kernel) rfl rfl (Nat.le_of_ble_eq_true rfl) dX5_look_155 (fun H locs hP hD hS => ?_)
                have hQ : ∀ (xb : KS) (x0 : Int32) (x1 : (Nat → Int32)) (xn : Int32), (WX q cy (sR (sI xb 1 x0) 5 x1) ++ rest).set 3 (q 3, .inr (3, [.ref (q 4), .int (gI (sR (sI xb 1 x0) 5 x1) 2), .ref (q 5), .ref (q 6), .ref (q 7), .ref (q 8), .int (gI (sR (sI xb 1 x0) 5 x1) 3), .ref (q 9), .int (gI (sR (sI xb 1 x0) 5 x1) 4)].set 6 (.int xn))) = WX q cy (sR (sI (sI xb 1 x0) 3 xn) 5 x1) ++ rest := fun _ _ _ _ => rfl
                have hP : va_P D vwCl (WX q cy (sR (sI (sI u 1 1) 3 ((gI u 3) + 1)) 5 r136) ++ rest) H := k_wP (hQ u 1 r136 ((gI u 3) + 1)) hP
                have hD : va_D A (WX q cy (sR (sI (sI u 1 1) 3 ((gI u 3) + 1)) 5 r136) ++ rest) := k_wD (hQ u 1 r136 ((gI u 3) + 1)) hD
                clear hQ
                obtain rfl := o_ret hf
                exact k_iret hx hb hr hP hD hS (Nat.zero_le _) (Nat.zero_le _) hlocks dX5_look_158
              · have hf := o_in c61 hf
                refine lv_aload_n hx hb dX5_look_64 rfl (lv_at hl 1 rfl) ?_
                obtain ⟨r65, h65r, hf⟩ := o_bs hf
                refine k_goi (va_runV (As := []) (rest := []) ⟨hx, hb, hml, hown, hts⟩ (zX5_full l D cy sa q rest H.size u  r65 h65r) (cwV 0 hts (gB_V wB116 wB117 wB118 wB2 wB119) rfl rfl rfl (by decide +kernel) ⟨Nat.le_of_ble_eq_true rfl, Nat.le_of_ble_eq_true rfl⟩) ⟨kP.blind, k_recv hE hP (ci := 5) (q0 := 0) rfl rfl, k_pre hP hD hS hE hA⟩ rfl rfl hl.1 rfl (lv_room (Nat.le_of_ble_eq_true rfl)) dX5_look_65 ⟨Nat.zero_le _, Nat.zero_le _⟩) hD hS hA (fun H locs hP hD hS => ?_)
                obtain rfl := o_ret hf
                exact k_iret hx hb hr hP hD hS (Nat.zero_le _) (Nat.zero_le _) hlocks dX5_look_68
            · have hf := o_in c44 hf
              refine lv_aload_n hx hb dX5_look_47 rfl (lv_at hl 1 rfl) ?_
              obtain ⟨r48, h48r, hf⟩ := o_bs hf
              refine k_goi (va_runV (As := []) (rest := []) ⟨hx, hb, hml, hown, hts⟩ (zX5_bad l D cy sa q rest H.size u  r48 h48r) (cwV 0 hts (gB_V wB102 wB103 wB104 wB2 wB105) rfl rfl rfl (by decide +kernel) ⟨Nat.le_of_ble_eq_true rfl, Nat.le_of_ble_eq_true rfl⟩) ⟨kP.blind, k_recv hE hP (ci := 5) (q0 := 0) rfl rfl, k_pre hP hD hS hE hA⟩ rfl rfl hl.1 rfl (lv_room (Nat.le_of_ble_eq_true rfl)) dX5_look_48 ⟨Nat.zero_le _, Nat.zero_le _⟩) hD hS hA (fun H locs hP hD hS => ?_)
              obtain rfl := o_ret hf
              exact k_iret hx hb hr hP hD hS (Nat.zero_le _) (Nat.zero_le _) hlocks dX5_look_51
noncomputable def mX5_minutes (u : KS) : Option (Int32 × KS) :=
  (mX5_dayIsFaulty u).bind fun r1 =>
  if r1.1 = 0 then
  (some ((gI r1.2 6), r1.2))
  else
  ((mX5_no r1.2).bind fun r8 =>
  some (r8.1, r8.2))
abbrev rmX5_minutes : Room := { frames := 10, cells := 0, slots := 0, locals := 217 }
set_option maxRecDepth 100000 in
set_option maxHeartbeats 4000000 in
theorem zX5_minutes (l : Launch) (D : va_G) (cy : Nat → ClassId) (sa : Nat → Nat) (q : Nat → Nat) (rest : va_W) (sz : Nat) (u : KS) (res : Int32 × KS) (hf : mX5_minutes u = some res) : kMi l yX5_minutes (wsK yX5_minutes cX5_minutes 1 (some .int)) rmX5_minutes D cy sa (WX q cy u ++ rest) sz [.ref (q 0)] res.1 (WX q cy res.2 ++ rest) 0 0 := by
  refine kM_of (Qc := fun A => kQi D A res.1 (WX q cy res.2 ++ rest)) (cc := cX5_minutes) (maxL := 1) (ret := (some .int)) (by decide) (Nat.le_of_ble_eq_true rfl) ?_
  intro p e s m below meth c A hx hb hml hr hts hown hlocks hin hA hP hD hS hE hsz ls hl
  have hown : s.vm.findClass RX5 = some m.cls := hown
  obtain ⟨H, hH0⟩ : ∃ H, H = s.heap := ⟨_, rfl⟩
  obtain ⟨locs, hlocs0⟩ : ∃ locs : List Loc, locs = [] := ⟨_, rfl⟩
  have hP : va_P D vwCl (WX q cy u ++ rest) H := by rw [hH0]; exact hP
  have hS : va_S A s.heap H locs := by rw [hH0, hlocs0]; exact hS
  have hl : lv_has ls 1 [(0, .ref (q 0))] := hl
  suffices hgoal : W p l e rmX5_minutes s m ([.ref (q 0)] : List Value).toArray below meth c H locs 0 0 (MQ below (kQi D A res.1 (WX q cy res.2 ++ rest)) ([.ref (q 0)] : List Value).toArray s 0 0 A) (F0 m 0 ls []) by rw [hH0, hlocs0] at hgoal; exact hgoal
  clear hH0 hlocs0
  unfold mX5_minutes at hf
  refine lv_aload_n hx hb dX5_minutes_0 rfl (lv_at hl 0 rfl) ?_
  obtain ⟨r1, h1r, hf⟩ := o_bs hf
  refine k_goi (va_runV (As := []) (rest := []) ⟨hx, hb, hml, hown, hts⟩ (zX5_dayIsFaulty l D cy sa q rest H.size u  r1 h1r) (cwV 0 hts (gB_V wB295 wB296 wB297 wB2 wB298) rfl rfl rfl (by decide +kernel) ⟨Nat.le_of_ble_eq_true rfl, Nat.le_of_ble_eq_true rfl⟩) ⟨kP.blind, k_recv hE hP (ci := 5) (q0 := 0) rfl rfl, k_pre hP hD hS hE hA⟩ rfl rfl hl.1 rfl (lv_room (Nat.le_of_ble_eq_true rfl)) dX5_minutes_1 ⟨Nat.zero_le _, Nat.zero_le _⟩) hD hS hA (fun H locs hP hD hS => ?_)
  refine lv_if_eq (tgt := 12) hx hb dX5_minutes_4 (by decide) (fun c4 => ?_) (fun c4 => ?_)
  · have hf := o_ip c4 hf
    refine lv_aload_n hx hb dX5_minutes_12 rfl (lv_at hl 0 rfl) ?_
    refine va_get (ci := 5) (v := .ref (q 10)) (C := RX5) (T := TX5) (N := 9) hx hb hts inlX5 hown hE.1 hP 0 rfl rfl 2 (by decide) (hts _ wB21) (fun _ h9 => h9) rfl dX5_minutes_13 ?_
    refine va_get (ci := 0) (v := .int (gI r1.2 6)) (C := RX0) (T := TX0) (N := 9) hx hb hts inlX0 hown hE.1 hP 10 rfl rfl 1 (by decide) (hts _ wB294) (fun _ h9 => h9) rfl dX5_minutes_16 ?_
    obtain rfl := o_ret hf
    exact k_iret hx hb hr hP hD hS (Nat.zero_le _) (Nat.zero_le _) hlocks dX5_minutes_19
  · have hf := o_in c4 hf
    refine lv_aload_n hx hb dX5_minutes_7 rfl (lv_at hl 0 rfl) ?_
    obtain ⟨r8, h8r, hf⟩ := o_bs hf
    refine k_goi (va_runV (As := []) (rest := []) ⟨hx, hb, hml, hown, hts⟩ (zX5_no l D cy sa q rest H.size r1.2  r8 h8r) (cwV 0 hts (gB_V wB299 wB300 wB301 wB2 wB302) rfl rfl rfl (by decide +kernel) ⟨Nat.le_of_ble_eq_true rfl, Nat.le_of_ble_eq_true rfl⟩) ⟨kP.blind, k_recv hE hP (ci := 5) (q0 := 0) rfl rfl, k_pre hP hD hS hE hA⟩ rfl rfl hl.1 rfl (lv_room (Nat.le_of_ble_eq_true rfl)) dX5_minutes_8 ⟨Nat.zero_le _, Nat.zero_le _⟩) hD hS hA (fun H locs hP hD hS => ?_)
    obtain rfl := o_ret hf
    exact k_iret hx hb hr hP hD hS (Nat.zero_le _) (Nat.zero_le _) hlocks dX5_minutes_11
noncomputable def mX5_next_s63 (c1 : Int32) (c5 : Int32) (s63 : Int32 × Int64 × Int32 × KS) : Option (((Int32 × Int64 × KS)) ⊕ (Int32 × Int64 × Int32 × KS)) :=
  if 4 < s63.2.2.1 then
  (some (.inl (s63.1, s63.2.1, s63.2.2.2)))
  else
  ((mX2_addUp s63.2.2.2 s63.2.2.1).bind fun r75 =>
  (mX5_at 4 (gR r75 2) 1).bind fun r90 =>
  (mX2_greatestLevel r75 r90).bind fun r93 =>
  if 0 ≤ (lg_cmp r93 s63.2.1) then
  (some (.inr (s63.1, s63.2.1, (s63.2.2.1 + 1), r75)))
  else
  (some (.inr (((10 * c5) + s63.2.2.1), r93, (s63.2.2.1 + 1), r75))))
noncomputable def mX5_next_s37 (c1 : Int32) (s37 : Int32 × Int64 × Int32 × KS) : Option (((Int32 × KS)) ⊕ (Int32 × Int64 × Int32 × KS)) :=
  if 4 ≤ s37.2.2.1 then
  (some (.inl (s37.1, s37.2.2.2)))
  else
  ((mX0_bring s37.2.2.2 c1 s37.2.2.1).bind fun r57 =>
  (lpF (mX5_next_s63 c1 s37.2.2.1) (s37.1, s37.2.1, 0, r57)).bind fun e63 =>
  some (.inr (e63.1, e63.2.1, (s37.2.2.1 + 1), e63.2.2)))
noncomputable def mX5_next (u : KS) (a1 : Int32) : Option (Int32 × KS) :=
  (mX5_noGuesses u).bind fun r1 =>
  if r1.1 = 0 then
  ((mX0_has r1.2 a1).bind fun r17 =>
  if r17 = 0 then
  ((mX5_bad r1.2).bind fun r24 =>
  some (r24.1, r24.2))
  else
  ((lpF (mX5_next_s37 a1) (0, 9223372036854775807, 0, r1.2)).bind fun e37 =>
  some (e37.1, e37.2)))
  else
  ((mX5_no r1.2).bind fun r8 =>
  some (r8.1, r8.2))
abbrev rmX5_next : Room := { frames := 10, cells := 0, slots := 0, locals := 217 }
set_option maxRecDepth 100000 in
set_option maxHeartbeats 4000000 in
theorem zX5_next (l : Launch) (D : va_G) (cy : Nat → ClassId) (sa : Nat → Nat) (q : Nat → Nat) (rest : va_W) (sz : Nat) (u : KS) (a1 : Int32) (res : Int32 × KS) (hf : mX5_next u a1 = some res) : kMi l yX5_next (wsK yX5_next cX5_next 9 (some .int)) rmX5_next D cy sa (WX q cy u ++ rest) sz [.ref (q 0), .int a1] res.1 (WX q cy res.2 ++ rest) 0 0 := by
  refine kM_of (Qc := fun A => kQi D A res.1 (WX q cy res.2 ++ rest)) (cc := cX5_next) (maxL := 9) (ret := (some .int)) (by decide) (Nat.le_of_ble_eq_true rfl) ?_
  intro p e s m below meth c A hx hb hml hr hts hown hlocks hin hA hP hD hS hE hsz ls hl
  have hown : s.vm.findClass RX5 = some m.cls := hown
  obtain ⟨H, hH0⟩ : ∃ H, H = s.heap := ⟨_, rfl⟩
  obtain ⟨locs, hlocs0⟩ : ∃ locs : List Loc, locs = [] := ⟨_, rfl⟩
  have hP : va_P D vwCl (WX q cy u ++ rest) H := by rw [hH0]; exact hP
  have hS : va_S A s.heap H locs := by rw [hH0, hlocs0]; exact hS
  have hl : lv_has ls 9 [(0, .ref (q 0)), (1, .int a1)] := hl
  suffices hgoal : W p l e rmX5_next s m ([.ref (q 0), .int a1] : List Value).toArray below meth c H locs 0 0 (MQ below (kQi D A res.1 (WX q cy res.2 ++ rest)) ([.ref (q 0), .int a1] : List Value).toArray s 0 0 A) (F0 m 0 ls []) by rw [hH0, hlocs0] at hgoal; exact hgoal
  clear hH0 hlocs0
  unfold mX5_next at hf
  refine lv_aload_n hx hb dX5_next_0 rfl (lv_at hl 0 rfl) ?_
  obtain ⟨r1, h1r, hf⟩ := o_bs hf
  refine k_goi (va_runV (As := []) (rest := []) ⟨hx, hb, hml, hown, hts⟩ (zX5_noGuesses l D cy sa q rest H.size u  r1 h1r) (cwV 0 hts (gB_V wB368 wB369 wB370 wB2 wB371) rfl rfl rfl (by decide +kernel) ⟨Nat.le_of_ble_eq_true rfl, Nat.le_of_ble_eq_true rfl⟩) ⟨kP.blind, k_recv hE hP (ci := 5) (q0 := 0) rfl rfl, k_pre hP hD hS hE hA⟩ rfl rfl hl.1 rfl (lv_room (Nat.le_of_ble_eq_true rfl)) dX5_next_1 ⟨Nat.zero_le _, Nat.zero_le _⟩) hD hS hA (fun H locs hP hD hS => ?_)
  refine lv_if_eq (tgt := 12) hx hb dX5_next_4 (by decide) (fun c4 => ?_) (fun c4 => ?_)
  · have hf := o_ip c4 hf
    refine lv_aload_n hx hb dX5_next_12 rfl (lv_at hl 0 rfl) ?_
    refine va_get (ci := 5) (v := .ref (q 10)) (C := RX5) (T := TX5) (N := 9) hx hb hts inlX5 hown hE.1 hP 0 rfl rfl 2 (by decide) (hts _ wB21) (fun _ h9 => h9) rfl dX5_next_13 ?_
    refine lv_iload_n hx hb dX5_next_16 rfl (lv_at hl 1 rfl) ?_
    obtain ⟨r17, h17r, hf⟩ := o_bs hf
    refine k_goi (va_runV (As := [.int a1]) (rest := []) ⟨hx, hb, hml, hown, hts⟩ (zX0_has l D cy sa q rest H.size r1.2 a1 r17 h17r) (cwV 1 hts (gB_V wB318 wB319 wB320 wB20 wB321) rfl rfl rfl (by decide +kernel) ⟨Nat.le_of_ble_eq_true rfl, Nat.le_of_ble_eq_true rfl⟩) ⟨kP.blind, k_recv hE hP (ci := 0) (q0 := 10) rfl rfl, k_pre hP hD hS hE hA⟩ rfl rfl hl.1 rfl (lv_room (Nat.le_of_ble_eq_true rfl)) dX5_next_17 ⟨Nat.zero_le _, Nat.zero_le _⟩) hD hS hA (fun H locs hP hD hS => ?_)
    refine lv_if_ne (tgt := 28) hx hb dX5_next_20 (by decide) (fun c20 => ?_) (fun c20 => ?_)
    · have hf := o_in c20 hf
      refine lv_iconst (v := 0) hx hb dX5_next_28 (by decide) ?_
      refine lv_istore_n (lv' := [(2, .int 0), (0, .ref (q 0)), (1, .int a1)]) hx hb dX5_next_29 rfl hl (by decide) rfl (fun ls hl => ?_)
      refine lv_ldc2 (v := 9223372036854775807) hx hb hown (hts _ wB500) dX5_next_30 ?_
      refine lv_lstore_n (lv' := [(3, .long 9223372036854775807), (2, .int 0), (0, .ref (q 0)), (1, .int a1)]) hx hb dX5_next_33 rfl hl (by decide) rfl (fun ls hl => ?_)
      refine lv_iconst (v := 0) hx hb dX5_next_34 (by decide) ?_
      refine lv_istore (lv' := [(5, .int 0), (3, .long 9223372036854775807), (2, .int 0), (0, .ref (q 0)), (1, .int a1)]) hx hb dX5_next_35 hl (by decide) rfl (fun ls hl => ?_)
      have L37 : ∀ (n37v : Nat) (s37 : Int32 × Int64 × Int32 × KS) (e37 : (Int32 × KS)), lpO (mX5_next_s37 a1) n37v s37 = some e37 → ∀ (H : Heap) (locs : List Loc) (ls : Array Slot), va_P D vwCl (WX q cy s37.2.2.2 ++ rest) H → va_D A (WX q cy s37.2.2.2 ++ rest) → va_S A s.heap H locs → lv_has ls 9 [(0, .ref (q 0)), (1, .int a1), (2, .int s37.1), (3, .long s37.2.1), (5, .int s37.2.2.1)] → (∀ (H : Heap) (locs : List Loc) (ls : Array Slot), va_P D vwCl (WX q cy e37.2 ++ rest) H → va_D A (WX q cy e37.2 ++ rest) → va_S A s.heap H locs → lv_has ls 9 [(2, .int e37.1)] → W p l e rmX5_next s m ([.ref (q 0), .int a1] : List Value).toArray below meth c H locs 0 0 (MQ below (kQi D A res.1 (WX q cy res.2 ++ rest)) ([.ref (q 0), .int a1] : List Value).toArray s 0 0 A) (F0 m 129 ls [])) → W p l e rmX5_next s m ([.ref (q 0), .int a1] : List Value).toArray below meth c H locs 0 0 (MQ below (kQi D A res.1 (WX q cy res.2 ++ rest)) ([.ref (q 0), .int a1] : List Value).toArray s 0 0 A) (F0 m 37 ls []) := by
        intro n37v
        induction n37v with
        | zero => intro s37 e37 h; exact (lpO_z h).elim
        | succ n37v ih37 =>
          intro s37 e37 h37z H locs ls hP hD hS hl K37_0
          obtain ⟨x37, hf, h37z⟩ := lpO_s h37z
          unfold mX5_next_s37 at hf
          refine lv_iload hx hb dX5_next_37 (lv_at hl 4 rfl) ?_
          refine lv_iconst (v := 4) hx hb dX5_next_39 (by decide) ?_
          refine lv_icmp_ge (tgt := 129) hx hb dX5_next_40 (by decide) (fun c40 => ?_) (fun c40 => ?_)
          · have hf := o_ip c40 hf
            obtain rfl := o_ret hf
            obtain rfl := lpK_l h37z
            exact K37_0 _ _ _ hP hD hS (lv_sub hl [2] rfl)
          · have hf := o_in c40 hf
            refine lv_aload_n hx hb dX5_next_43 rfl (lv_at hl 0 rfl) ?_
            refine va_get (ci := 5) (v := .ref (q 10)) (C := RX5) (T := TX5) (N := 9) hx hb hts inlX5 hown hE.1 hP 0 rfl rfl 2 (by decide) (hts _ wB21) (fun _ h9 => h9) rfl dX5_next_44 ?_
            refine lv_iload_n hx hb dX5_next_47 rfl (lv_at hl 1 rfl) ?_
            refine lv_iload hx hb dX5_next_48 (lv_at hl 4 rfl) ?_
            refine lv_aload_n hx hb dX5_next_50 rfl (lv_at hl 0 rfl) ?_
            refine va_get (ci := 5) (v := .ref (q 15)) (C := RX5) (T := TX5) (N := 9) hx hb hts inlX5 hown hE.1 hP 0 rfl rfl 3 (by decide) (hts _ wB25) (fun _ h9 => h9) rfl dX5_next_51 ?_
            refine va_get (ci := 2) (v := .ref (q 16)) (C := RX2) (T := TX2) (N := 4) hx hb hts inlX2 hown hE.1 hP 15 rfl rfl 1 (by decide) (hts _ wB377) (fun _ h9 => h9) rfl dX5_next_54 ?_
            obtain ⟨r57, h57r, hf⟩ := o_bs hf
            refine k_gov (va_runV (As := [.int a1, .int s37.2.2.1, .ref (q 16)]) (rest := []) ⟨hx, hb, hml, hown, hts⟩ (zX0_bring l D cy sa q rest H.size s37.2.2.2 a1 s37.2.2.1 r57 h57r) (cwV 3 hts (gB_V wB384 wB385 wB386 wB20 wB387) rfl rfl rfl (by decide +kernel) ⟨Nat.le_of_ble_eq_true rfl, Nat.le_of_ble_eq_true rfl⟩) ⟨kP.blind, k_recv hE hP (ci := 0) (q0 := 10) rfl rfl, k_pre hP hD hS hE hA⟩ rfl rfl hl.1 rfl (lv_room (Nat.le_of_ble_eq_true rfl)) dX5_next_57 ⟨Nat.zero_le _, Nat.zero_le _⟩) hD hS hA (fun H locs hP hD hS => ?_)
            refine lv_iconst (v := 0) hx hb dX5_next_60 (by decide) ?_
            refine lv_istore (lv' := [(6, .int 0), (0, .ref (q 0)), (1, .int a1), (2, .int s37.1), (3, .long s37.2.1), (5, .int s37.2.2.1)]) hx hb dX5_next_61 hl (by decide) rfl (fun ls hl => ?_)
            have L63 : ∀ (n63v : Nat) (s63 : Int32 × Int64 × Int32 × KS) (e63 : (Int32 × Int64 × KS)), lpO (mX5_next_s63 a1 s37.2.2.1) n63v s63 = some e63 → ∀ (H : Heap) (locs : List Loc) (ls : Array Slot), va_P D vwCl (WX q cy s63.2.2.2 ++ rest) H → va_D A (WX q cy s63.2.2.2 ++ rest) → va_S A s.heap H locs → lv_has ls 9 [(0, .ref (q 0)), (1, .int a1), (2, .int s63.1), (3, .long s63.2.1), (5, .int s37.2.2.1), (6, .int s63.2.2.1)] → (∀ (H : Heap) (locs : List Loc) (ls : Array Slot), va_P D vwCl (WX q cy e63.2.2 ++ rest) H → va_D A (WX q cy e63.2.2 ++ rest) → va_S A s.heap H locs → lv_has ls 9 [(0, .ref (q 0)), (1, .int a1), (2, .int e63.1), (3, .long e63.2.1), (5, .int s37.2.2.1)] → W p l e rmX5_next s m ([.ref (q 0), .int a1] : List Value).toArray below meth c H locs 0 0 (MQ below (kQi D A res.1 (WX q cy res.2 ++ rest)) ([.ref (q 0), .int a1] : List Value).toArray s 0 0 A) (F0 m 123 ls [])) → W p l e rmX5_next s m ([.ref (q 0), .int a1] : List Value).toArray below meth c H locs 0 0 (MQ below (kQi D A res.1 (WX q cy res.2 ++ rest)) ([.ref (q 0), .int a1] : List Value).toArray s 0 0 A) (F0 m 63 ls []) := by
              intro n63v
              induction n63v with
              | zero => intro s63 e63 h; exact (lpO_z h).elim
              | succ n63v ih63 =>
                intro s63 e63 h63z H locs ls hP hD hS hl K63_0
                obtain ⟨x63, hf, h63z⟩ := lpO_s h63z
                unfold mX5_next_s63 at hf
                refine lv_iload hx hb dX5_next_63 (lv_at hl 5 rfl) ?_
                refine lv_iconst (v := 4) hx hb dX5_next_65 (by decide) ?_
                refine lv_icmp_gt (tgt := 123) hx hb dX5_next_66 (by decide) (fun c66 => ?_) (fun c66 => ?_)
                · have hf := o_ip c66 hf
                  obtain rfl := o_ret hf
                  obtain rfl := lpK_l h63z
                  exact K63_0 _ _ _ hP hD hS (lv_sub hl [0, 1, 2, 3, 4] rfl)
                · have hf := o_in c66 hf
                  refine lv_aload_n hx hb dX5_next_69 rfl (lv_at hl 0 rfl) ?_
                  refine va_get (ci := 5) (v := .ref (q 15)) (C := RX5) (T := TX5) (N := 9) hx hb hts inlX5 hown hE.1 hP 0 rfl rfl 3 (by decide) (hts _ wB25) (fun _ h9 => h9) rfl dX5_next_70 ?_
                  refine lv_iload hx hb dX5_next_73 (lv_at hl 5 rfl) ?_
                  obtain ⟨r75, h75r, hf⟩ := o_bs hf
                  refine k_gov (va_runV (As := [.int s63.2.2.1]) (rest := []) ⟨hx, hb, hml, hown, hts⟩ (zX2_addUp l D cy sa q rest H.size s63.2.2.2 s63.2.2.1 r75 h75r) (cwV 1 hts (gB_V wB389 wB390 wB391 wB24 wB392) rfl rfl rfl (by decide +kernel) ⟨Nat.le_of_ble_eq_true rfl, Nat.le_of_ble_eq_true rfl⟩) ⟨kP.blind, k_recv hE hP (ci := 2) (q0 := 15) rfl rfl, k_pre hP hD hS hE hA⟩ rfl rfl hl.1 rfl (lv_room (Nat.le_of_ble_eq_true rfl)) dX5_next_75 ⟨Nat.zero_le _, Nat.zero_le _⟩) hD hS hA (fun H locs hP hD hS => ?_)
                  refine lv_aload_n hx hb dX5_next_78 rfl (lv_at hl 0 rfl) ?_
                  refine va_get (ci := 5) (v := .ref (q 15)) (C := RX5) (T := TX5) (N := 9) hx hb hts inlX5 hown hE.1 hP 0 rfl rfl 3 (by decide) (hts _ wB25) (fun _ h9 => h9) rfl dX5_next_79 ?_
                  refine lv_aload_n hx hb dX5_next_82 rfl (lv_at hl 0 rfl) ?_
                  refine va_get (ci := 5) (v := .ref (q 3)) (C := RX5) (T := TX5) (N := 9) hx hb hts inlX5 hown hE.1 hP 0 rfl rfl 0 (by decide) (hts _ wB16) (fun _ h9 => h9) rfl dX5_next_83 ?_
                  refine va_get (ci := 3) (v := .ref (q 5)) (C := RX3) (T := TX3) (N := 9) hx hb hts inlX3 hown hE.1 hP 3 rfl rfl 2 (by decide) (hts _ wB136) (fun _ h9 => h9) rfl dX5_next_86 ?_
                  refine lv_iconst (v := 1) hx hb dX5_next_89 (by decide) ?_
                  obtain ⟨r90, h90r, hf⟩ := o_bs hf
                  refine k_goi (va_runS (As := [.ref (q 5), .int 1]) (rest := [.ref (q 15)]) ⟨hx, hb, hml, hown, hts⟩ (zX5_at l D cy sa (WX q cy r75 ++ rest) H.size 5 (q 5) 4 (gR r75 2) 1 r90 rfl h90r) (va_cwS 2 hts (gB_S wB110 wB111 wB2 wB112) rfl rfl rfl (by decide +kernel) ⟨Nat.le_of_ble_eq_true rfl, Nat.le_of_ble_eq_true rfl⟩) ⟨kP.blind, k_pre hP hD hS hE hA⟩ rfl rfl hl.1 rfl (lv_room (Nat.le_of_ble_eq_true rfl)) dX5_next_90 ⟨Nat.zero_le _, Nat.zero_le _⟩) hD hS hA (fun H locs hP hD hS => ?_)
                  obtain ⟨r93, h93r, hf⟩ := o_bs hf
                  refine k_gol (va_runV (As := [.int r90]) (rest := []) ⟨hx, hb, hml, hown, hts⟩ (zX2_greatestLevel l D cy sa q rest H.size r75 r90 r93 h93r) (cwV 1 hts (gB_V wB501 wB502 wB503 wB24 wB504) rfl rfl rfl (by decide +kernel) ⟨Nat.le_of_ble_eq_true rfl, Nat.le_of_ble_eq_true rfl⟩) ⟨kP.blind, k_recv hE hP (ci := 2) (q0 := 15) rfl rfl, k_pre hP hD hS hE hA⟩ rfl rfl hl.1 rfl (lv_room (Nat.le_of_ble_eq_true rfl)) dX5_next_93 ⟨Nat.zero_le _, Nat.zero_le _⟩) hD hS hA (fun H locs hP hD hS => ?_)
                  refine lv_lstore (lv' := [(7, .long r93), (0, .ref (q 0)), (1, .int a1), (2, .int s63.1), (3, .long s63.2.1), (5, .int s37.2.2.1), (6, .int s63.2.2.1)]) hx hb dX5_next_96 hl (by decide) rfl (fun ls hl => ?_)
                  refine lv_lload hx hb dX5_next_98 (lv_at hl 0 rfl) ?_
                  refine lv_lload_n hx hb dX5_next_100 rfl (lv_at hl 4 rfl) ?_
                  refine W.lcmp hx hb dX5_next_101 ?_
                  refine lv_if_ge (tgt := 117) hx hb dX5_next_102 (by decide) (fun c102 => ?_) (fun c102 => ?_)
                  · have hf := o_ip c102 hf
                    refine lv_iinc (v := (s63.2.2.1 + 1)) (lv' := [(6, .int (s63.2.2.1 + 1)), (7, .long r93), (0, .ref (q 0)), (1, .int a1), (2, .int s63.1), (3, .long s63.2.1), (5, .int s37.2.2.1)]) hx hb dX5_next_117 hl (k := 6) rfl (by rfl) (by decide) rfl (fun ls hl => ?_)
                    refine lv_goto (tgt := 63) hx hb dX5_next_120 (by decide) ?_
                    obtain rfl := o_ret hf
                    exact ih63 _ _ (lpK_r h63z) _ _ _ hP hD hS (lv_sub hl [2, 3, 4, 5, 6, 0] rfl) K63_0
                  · have hf := o_in c102 hf
                    refine lv_lload hx hb dX5_next_105 (lv_at hl 0 rfl) ?_
                    refine lv_lstore_n (lv' := [(3, .long r93), (7, .long r93), (0, .ref (q 0)), (1, .int a1), (2, .int s63.1), (5, .int s37.2.2.1), (6, .int s63.2.2.1)]) hx hb dX5_next_107 rfl hl (by decide) rfl (fun ls hl => ?_)
                    refine lv_bipush (v := 10) hx hb dX5_next_108 (by decide) ?_
                    refine lv_iload hx hb dX5_next_110 (lv_at hl 5 rfl) ?_
                    refine lv_imul hx hb dX5_next_112 ?_
                    refine lv_iload hx hb dX5_next_113 (lv_at hl 6 rfl) ?_
                    refine lv_iadd hx hb dX5_next_115 ?_
                    refine lv_istore_n (lv' := [(2, .int ((10 * s37.2.2.1) + s63.2.2.1)), (3, .long r93), (7, .long r93), (0, .ref (q 0)), (1, .int a1), (5, .int s37.2.2.1), (6, .int s63.2.2.1)]) hx hb dX5_next_116 rfl hl (by decide) rfl (fun ls hl => ?_)
                    refine lv_iinc (v := (s63.2.2.1 + 1)) (lv' := [(6, .int (s63.2.2.1 + 1)), (2, .int ((10 * s37.2.2.1) + s63.2.2.1)), (3, .long r93), (7, .long r93), (0, .ref (q 0)), (1, .int a1), (5, .int s37.2.2.1)]) hx hb dX5_next_117 hl (k := 6) rfl (by rfl) (by decide) rfl (fun ls hl => ?_)
                    refine lv_goto (tgt := 63) hx hb dX5_next_120 (by decide) ?_
                    obtain rfl := o_ret hf
                    exact ih63 _ _ (lpK_r h63z) _ _ _ hP hD hS (lv_sub hl [4, 5, 1, 2, 6, 0] rfl) K63_0
            obtain ⟨e63, h63q, hf⟩ := o_bs hf
            obtain ⟨n63v, h63q⟩ := lpF_ex h63q
            refine L63 n63v _ e63 h63q _ _ _ hP hD hS (lv_sub hl [1, 2, 3, 4, 5, 0] rfl) ?_
            intro H locs ls hP hD hS hl
            refine lv_iinc (v := (s37.2.2.1 + 1)) (lv' := [(5, .int (s37.2.2.1 + 1)), (0, .ref (q 0)), (1, .int a1), (2, .int e63.1), (3, .long e63.2.1)]) hx hb dX5_next_123 hl (k := 4) rfl (by rfl) (by decide) rfl (fun ls hl => ?_)
            refine lv_goto (tgt := 37) hx hb dX5_next_126 (by decide) ?_
            obtain rfl := o_ret hf
            exact ih37 _ _ (lpK_r h37z) _ _ _ hP hD hS (lv_sub hl [1, 2, 3, 4, 0] rfl) K37_0
      obtain ⟨e37, h37q, hf⟩ := o_bs hf
      obtain ⟨n37v, h37q⟩ := lpF_ex h37q
      refine L37 n37v _ e37 h37q _ _ _ hP hD hS (lv_sub hl [3, 4, 2, 1, 0] rfl) ?_
      intro H locs ls hP hD hS hl
      refine lv_iload_n hx hb dX5_next_129 rfl (lv_at hl 0 rfl) ?_
      obtain rfl := o_ret hf
      exact k_iret hx hb hr hP hD hS (Nat.zero_le _) (Nat.zero_le _) hlocks dX5_next_130
    · have hf := o_ip c20 hf
      refine lv_aload_n hx hb dX5_next_23 rfl (lv_at hl 0 rfl) ?_
      obtain ⟨r24, h24r, hf⟩ := o_bs hf
      refine k_goi (va_runV (As := []) (rest := []) ⟨hx, hb, hml, hown, hts⟩ (zX5_bad l D cy sa q rest H.size r1.2  r24 h24r) (cwV 0 hts (gB_V wB102 wB103 wB104 wB2 wB105) rfl rfl rfl (by decide +kernel) ⟨Nat.le_of_ble_eq_true rfl, Nat.le_of_ble_eq_true rfl⟩) ⟨kP.blind, k_recv hE hP (ci := 5) (q0 := 0) rfl rfl, k_pre hP hD hS hE hA⟩ rfl rfl hl.1 rfl (lv_room (Nat.le_of_ble_eq_true rfl)) dX5_next_24 ⟨Nat.zero_le _, Nat.zero_le _⟩) hD hS hA (fun H locs hP hD hS => ?_)
      obtain rfl := o_ret hf
      exact k_iret hx hb hr hP hD hS (Nat.zero_le _) (Nat.zero_le _) hlocks dX5_next_27
  · have hf := o_in c4 hf
    refine lv_aload_n hx hb dX5_next_7 rfl (lv_at hl 0 rfl) ?_
    obtain ⟨r8, h8r, hf⟩ := o_bs hf
    refine k_goi (va_runV (As := []) (rest := []) ⟨hx, hb, hml, hown, hts⟩ (zX5_no l D cy sa q rest H.size r1.2  r8 h8r) (cwV 0 hts (gB_V wB299 wB300 wB301 wB2 wB302) rfl rfl rfl (by decide +kernel) ⟨Nat.le_of_ble_eq_true rfl, Nat.le_of_ble_eq_true rfl⟩) ⟨kP.blind, k_recv hE hP (ci := 5) (q0 := 0) rfl rfl, k_pre hP hD hS hE hA⟩ rfl rfl hl.1 rfl (lv_room (Nat.le_of_ble_eq_true rfl)) dX5_next_8 ⟨Nat.zero_le _, Nat.zero_le _⟩) hD hS hA (fun H locs hP hD hS => ?_)
    obtain rfl := o_ret hf
    exact k_iret hx hb hr hP hD hS (Nat.zero_le _) (Nat.zero_le _) hlocks dX5_next_11
noncomputable def mX5_odds (u : KS) (a1 : Int32) (a2 : Int32) : Option (Int32 × KS) :=
  if a1 < 0 then
  ((mX5_bad u).bind fun r20 =>
  some (r20.1, r20.2))
  else
  (if 4 ≤ a1 then
  ((mX5_bad u).bind fun r20 =>
  some (r20.1, r20.2))
  else
  (if a2 < 0 then
  ((mX5_bad u).bind fun r20 =>
  some (r20.1, r20.2))
  else
  (if a2 ≤ 7 then
  ((mX5_noGuesses u).bind fun r25 =>
  if r25.1 = 0 then
  ((mX2_having r25.2 a1 a2).bind fun r46 =>
  (mX1_setShare r25.2 r46 (gL r25.2 0)).bind fun r56 =>
  some (1, r56))
  else
  ((mX5_no r25.2).bind fun r32 =>
  some (r32.1, r32.2)))
  else
  ((mX5_bad u).bind fun r20 =>
  some (r20.1, r20.2)))))
abbrev rmX5_odds : Room := { frames := 10, cells := 0, slots := 0, locals := 217 }
set_option maxRecDepth 100000 in
set_option maxHeartbeats 4000000 in
theorem zX5_odds (l : Launch) (D : va_G) (cy : Nat → ClassId) (sa : Nat → Nat) (q : Nat → Nat) (rest : va_W) (sz : Nat) (u : KS) (a1 : Int32) (a2 : Int32) (res : Int32 × KS) (hf : mX5_odds u a1 a2 = some res) : kMi l yX5_odds (wsK yX5_odds cX5_odds 3 (some .int)) rmX5_odds D cy sa (WX q cy u ++ rest) sz [.ref (q 0), .int a1, .int a2] res.1 (WX q cy res.2 ++ rest) 0 0 := by
  refine kM_of (Qc := fun A => kQi D A res.1 (WX q cy res.2 ++ rest)) (cc := cX5_odds) (maxL := 3) (ret := (some .int)) (by decide) (Nat.le_of_ble_eq_true rfl) ?_
  intro p e s m below meth c A hx hb hml hr hts hown hlocks hin hA hP hD hS hE hsz ls hl
  have hown : s.vm.findClass RX5 = some m.cls := hown
  obtain ⟨H, hH0⟩ : ∃ H, H = s.heap := ⟨_, rfl⟩
  obtain ⟨locs, hlocs0⟩ : ∃ locs : List Loc, locs = [] := ⟨_, rfl⟩
  have hP : va_P D vwCl (WX q cy u ++ rest) H := by rw [hH0]; exact hP
  have hS : va_S A s.heap H locs := by rw [hH0, hlocs0]; exact hS
  have hl : lv_has ls 3 [(0, .ref (q 0)), (1, .int a1), (2, .int a2)] := hl
  suffices hgoal : W p l e rmX5_odds s m ([.ref (q 0), .int a1, .int a2] : List Value).toArray below meth c H locs 0 0 (MQ below (kQi D A res.1 (WX q cy res.2 ++ rest)) ([.ref (q 0), .int a1, .int a2] : List Value).toArray s 0 0 A) (F0 m 0 ls []) by rw [hH0, hlocs0] at hgoal; exact hgoal
  clear hH0 hlocs0
  unfold mX5_odds at hf
  refine lv_iload_n hx hb dX5_odds_0 rfl (lv_at hl 1 rfl) ?_
  refine lv_if_lt (tgt := 19) hx hb dX5_odds_1 (by decide) (fun c1 => ?_) (fun c1 => ?_)
  · have hf := o_ip c1 hf
    refine lv_aload_n hx hb dX5_odds_19 rfl (lv_at hl 0 rfl) ?_
    obtain ⟨r20, h20r, hf⟩ := o_bs hf
    refine k_goi (va_runV (As := []) (rest := []) ⟨hx, hb, hml, hown, hts⟩ (zX5_bad l D cy sa q rest H.size u  r20 h20r) (cwV 0 hts (gB_V wB102 wB103 wB104 wB2 wB105) rfl rfl rfl (by decide +kernel) ⟨Nat.le_of_ble_eq_true rfl, Nat.le_of_ble_eq_true rfl⟩) ⟨kP.blind, k_recv hE hP (ci := 5) (q0 := 0) rfl rfl, k_pre hP hD hS hE hA⟩ rfl rfl hl.1 rfl (lv_room (Nat.le_of_ble_eq_true rfl)) dX5_odds_20 ⟨Nat.zero_le _, Nat.zero_le _⟩) hD hS hA (fun H locs hP hD hS => ?_)
    obtain rfl := o_ret hf
    exact k_iret hx hb hr hP hD hS (Nat.zero_le _) (Nat.zero_le _) hlocks dX5_odds_23
  · have hf := o_in c1 hf
    refine lv_iload_n hx hb dX5_odds_4 rfl (lv_at hl 1 rfl) ?_
    refine lv_iconst (v := 4) hx hb dX5_odds_5 (by decide) ?_
    refine lv_icmp_ge (tgt := 19) hx hb dX5_odds_6 (by decide) (fun c6 => ?_) (fun c6 => ?_)
    · have hf := o_ip c6 hf
      refine lv_aload_n hx hb dX5_odds_19 rfl (lv_at hl 0 rfl) ?_
      obtain ⟨r20, h20r, hf⟩ := o_bs hf
      refine k_goi (va_runV (As := []) (rest := []) ⟨hx, hb, hml, hown, hts⟩ (zX5_bad l D cy sa q rest H.size u  r20 h20r) (cwV 0 hts (gB_V wB102 wB103 wB104 wB2 wB105) rfl rfl rfl (by decide +kernel) ⟨Nat.le_of_ble_eq_true rfl, Nat.le_of_ble_eq_true rfl⟩) ⟨kP.blind, k_recv hE hP (ci := 5) (q0 := 0) rfl rfl, k_pre hP hD hS hE hA⟩ rfl rfl hl.1 rfl (lv_room (Nat.le_of_ble_eq_true rfl)) dX5_odds_20 ⟨Nat.zero_le _, Nat.zero_le _⟩) hD hS hA (fun H locs hP hD hS => ?_)
      obtain rfl := o_ret hf
      exact k_iret hx hb hr hP hD hS (Nat.zero_le _) (Nat.zero_le _) hlocks dX5_odds_23
    · have hf := o_in c6 hf
      refine lv_iload_n hx hb dX5_odds_9 rfl (lv_at hl 2 rfl) ?_
      refine lv_if_lt (tgt := 19) hx hb dX5_odds_10 (by decide) (fun c10 => ?_) (fun c10 => ?_)
      · have hf := o_ip c10 hf
        refine lv_aload_n hx hb dX5_odds_19 rfl (lv_at hl 0 rfl) ?_
        obtain ⟨r20, h20r, hf⟩ := o_bs hf
        refine k_goi (va_runV (As := []) (rest := []) ⟨hx, hb, hml, hown, hts⟩ (zX5_bad l D cy sa q rest H.size u  r20 h20r) (cwV 0 hts (gB_V wB102 wB103 wB104 wB2 wB105) rfl rfl rfl (by decide +kernel) ⟨Nat.le_of_ble_eq_true rfl, Nat.le_of_ble_eq_true rfl⟩) ⟨kP.blind, k_recv hE hP (ci := 5) (q0 := 0) rfl rfl, k_pre hP hD hS hE hA⟩ rfl rfl hl.1 rfl (lv_room (Nat.le_of_ble_eq_true rfl)) dX5_odds_20 ⟨Nat.zero_le _, Nat.zero_le _⟩) hD hS hA (fun H locs hP hD hS => ?_)
        obtain rfl := o_ret hf
        exact k_iret hx hb hr hP hD hS (Nat.zero_le _) (Nat.zero_le _) hlocks dX5_odds_23
      · have hf := o_in c10 hf
        refine lv_iload_n hx hb dX5_odds_13 rfl (lv_at hl 2 rfl) ?_
        refine lv_bipush (v := 7) hx hb dX5_odds_14 (by decide) ?_
        refine lv_icmp_le (tgt := 24) hx hb dX5_odds_16 (by decide) (fun c16 => ?_) (fun c16 => ?_)
        · have hf := o_ip c16 hf
          refine lv_aload_n hx hb dX5_odds_24 rfl (lv_at hl 0 rfl) ?_
          obtain ⟨r25, h25r, hf⟩ := o_bs hf
          refine k_goi (va_runV (As := []) (rest := []) ⟨hx, hb, hml, hown, hts⟩ (zX5_noGuesses l D cy sa q rest H.size u  r25 h25r) (cwV 0 hts (gB_V wB368 wB369 wB370 wB2 wB371) rfl rfl rfl (by decide +kernel) ⟨Nat.le_of_ble_eq_true rfl, Nat.le_of_ble_eq_true rfl⟩) ⟨kP.blind, k_recv hE hP (ci := 5) (q0 := 0) rfl rfl, k_pre hP hD hS hE hA⟩ rfl rfl hl.1 rfl (lv_room (Nat.le_of_ble_eq_true rfl)) dX5_odds_25 ⟨Nat.zero_le _, Nat.zero_le _⟩) hD hS hA (fun H locs hP hD hS => ?_)
          refine lv_if_eq (tgt := 36) hx hb dX5_odds_28 (by decide) (fun c28 => ?_) (fun c28 => ?_)
          · have hf := o_ip c28 hf
            refine lv_aload_n hx hb dX5_odds_36 rfl (lv_at hl 0 rfl) ?_
            refine va_get (ci := 5) (v := .ref (q 21)) (C := RX5) (T := TX5) (N := 9) hx hb hts inlX5 hown hE.1 hP 0 rfl rfl 5 (by decide) (hts _ wB33) (fun _ h9 => h9) rfl dX5_odds_37 ?_
            refine lv_aload_n hx hb dX5_odds_40 rfl (lv_at hl 0 rfl) ?_
            refine va_get (ci := 5) (v := .ref (q 15)) (C := RX5) (T := TX5) (N := 9) hx hb hts inlX5 hown hE.1 hP 0 rfl rfl 3 (by decide) (hts _ wB25) (fun _ h9 => h9) rfl dX5_odds_41 ?_
            refine lv_iload_n hx hb dX5_odds_44 rfl (lv_at hl 1 rfl) ?_
            refine lv_iload_n hx hb dX5_odds_45 rfl (lv_at hl 2 rfl) ?_
            obtain ⟨r46, h46r, hf⟩ := o_bs hf
            refine k_gol (va_runV (As := [.int a1, .int a2]) (rest := [.ref (q 21)]) ⟨hx, hb, hml, hown, hts⟩ (zX2_having l D cy sa q rest H.size r25.2 a1 a2 r46 h46r) (cwV 2 hts (gB_V wB434 wB435 wB436 wB24 wB437) rfl rfl rfl (by decide +kernel) ⟨Nat.le_of_ble_eq_true rfl, Nat.le_of_ble_eq_true rfl⟩) ⟨kP.blind, k_recv hE hP (ci := 2) (q0 := 15) rfl rfl, k_pre hP hD hS hE hA⟩ rfl rfl hl.1 rfl (lv_room (Nat.le_of_ble_eq_true rfl)) dX5_odds_46 ⟨Nat.zero_le _, Nat.zero_le _⟩) hD hS hA (fun H locs hP hD hS => ?_)
            refine lv_aload_n hx hb dX5_odds_49 rfl (lv_at hl 0 rfl) ?_
            refine va_get (ci := 5) (v := .ref (q 15)) (C := RX5) (T := TX5) (N := 9) hx hb hts inlX5 hown hE.1 hP 0 rfl rfl 3 (by decide) (hts _ wB25) (fun _ h9 => h9) rfl dX5_odds_50 ?_
            refine va_get (ci := 2) (v := .long (gL r25.2 0)) (C := RX2) (T := TX2) (N := 4) hx hb hts inlX2 hown hE.1 hP 15 rfl rfl 0 (by decide) (hts _ wB372) (fun _ h9 => h9) rfl dX5_odds_53 ?_
            obtain ⟨r56, h56r, hf⟩ := o_bs hf
            refine k_gov (va_runV (As := [.long r46, .long (gL r25.2 0)]) (rest := []) ⟨hx, hb, hml, hown, hts⟩ (zX1_setShare l D cy sa q rest H.size r25.2 r46 (gL r25.2 0) r56 h56r) (cwV 2 hts (gB_V wB423 wB424 wB425 wB32 wB426) rfl rfl rfl (by decide +kernel) ⟨Nat.le_of_ble_eq_true rfl, Nat.le_of_ble_eq_true rfl⟩) ⟨kP.blind, k_recv hE hP (ci := 1) (q0 := 21) rfl rfl, k_pre hP hD hS hE hA⟩ rfl rfl hl.1 rfl (lv_room (Nat.le_of_ble_eq_true rfl)) dX5_odds_56 ⟨Nat.zero_le _, Nat.zero_le _⟩) hD hS hA (fun H locs hP hD hS => ?_)
            refine lv_iconst (v := 1) hx hb dX5_odds_59 (by decide) ?_
            obtain rfl := o_ret hf
            exact k_iret hx hb hr hP hD hS (Nat.zero_le _) (Nat.zero_le _) hlocks dX5_odds_60
          · have hf := o_in c28 hf
            refine lv_aload_n hx hb dX5_odds_31 rfl (lv_at hl 0 rfl) ?_
            obtain ⟨r32, h32r, hf⟩ := o_bs hf
            refine k_goi (va_runV (As := []) (rest := []) ⟨hx, hb, hml, hown, hts⟩ (zX5_no l D cy sa q rest H.size r25.2  r32 h32r) (cwV 0 hts (gB_V wB299 wB300 wB301 wB2 wB302) rfl rfl rfl (by decide +kernel) ⟨Nat.le_of_ble_eq_true rfl, Nat.le_of_ble_eq_true rfl⟩) ⟨kP.blind, k_recv hE hP (ci := 5) (q0 := 0) rfl rfl, k_pre hP hD hS hE hA⟩ rfl rfl hl.1 rfl (lv_room (Nat.le_of_ble_eq_true rfl)) dX5_odds_32 ⟨Nat.zero_le _, Nat.zero_le _⟩) hD hS hA (fun H locs hP hD hS => ?_)
            obtain rfl := o_ret hf
            exact k_iret hx hb hr hP hD hS (Nat.zero_le _) (Nat.zero_le _) hlocks dX5_odds_35
        · have hf := o_in c16 hf
          refine lv_aload_n hx hb dX5_odds_19 rfl (lv_at hl 0 rfl) ?_
          obtain ⟨r20, h20r, hf⟩ := o_bs hf
          refine k_goi (va_runV (As := []) (rest := []) ⟨hx, hb, hml, hown, hts⟩ (zX5_bad l D cy sa q rest H.size u  r20 h20r) (cwV 0 hts (gB_V wB102 wB103 wB104 wB2 wB105) rfl rfl rfl (by decide +kernel) ⟨Nat.le_of_ble_eq_true rfl, Nat.le_of_ble_eq_true rfl⟩) ⟨kP.blind, k_recv hE hP (ci := 5) (q0 := 0) rfl rfl, k_pre hP hD hS hE hA⟩ rfl rfl hl.1 rfl (lv_room (Nat.le_of_ble_eq_true rfl)) dX5_odds_20 ⟨Nat.zero_le _, Nat.zero_le _⟩) hD hS hA (fun H locs hP hD hS => ?_)
          obtain rfl := o_ret hf
          exact k_iret hx hb hr hP hD hS (Nat.zero_le _) (Nat.zero_le _) hlocks dX5_odds_23
noncomputable def mX5_prior (u : KS) (a1 : Int32) (a2 : Int32) : Option (Int32 × KS) :=
  if a1 < 0 then
  ((mX5_bad u).bind fun r21 =>
  some (r21.1, r21.2))
  else
  (if 7 ≤ a1 then
  ((mX5_bad u).bind fun r21 =>
  some (r21.1, r21.2))
  else
  (if a2 < 0 then
  ((mX5_bad u).bind fun r21 =>
  some (r21.1, r21.2))
  else
  (if a2 ≤ 9 then
  ((mX5_at 7 (gR u 3) a1).bind fun r33 =>
  (mX5_set 7 (gR u 3) a1 a2).bind fun r46 =>
  some (r33, (sR (sI u 1 1) 3 r46)))
  else
  ((mX5_bad u).bind fun r21 =>
  some (r21.1, r21.2)))))
abbrev rmX5_prior : Room := { frames := 3, cells := 0, slots := 0, locals := 64 }
set_option maxRecDepth 100000 in
set_option maxHeartbeats 4000000 in
theorem zX5_prior (l : Launch) (D : va_G) (cy : Nat → ClassId) (sa : Nat → Nat) (q : Nat → Nat) (rest : va_W) (sz : Nat) (u : KS) (a1 : Int32) (a2 : Int32) (res : Int32 × KS) (hf : mX5_prior u a1 a2 = some res) : kMi l yX5_prior (wsK yX5_prior cX5_prior 4 (some .int)) rmX5_prior D cy sa (WX q cy u ++ rest) sz [.ref (q 0), .int a1, .int a2] res.1 (WX q cy res.2 ++ rest) 0 0 := by
  refine kM_of (Qc := fun A => kQi D A res.1 (WX q cy res.2 ++ rest)) (cc := cX5_prior) (maxL := 4) (ret := (some .int)) (by decide) (Nat.le_of_ble_eq_true rfl) ?_
  intro p e s m below meth c A hx hb hml hr hts hown hlocks hin hA hP hD hS hE hsz ls hl
  have hown : s.vm.findClass RX5 = some m.cls := hown
  obtain ⟨H, hH0⟩ : ∃ H, H = s.heap := ⟨_, rfl⟩
  obtain ⟨locs, hlocs0⟩ : ∃ locs : List Loc, locs = [] := ⟨_, rfl⟩
  have hP : va_P D vwCl (WX q cy u ++ rest) H := by rw [hH0]; exact hP
  have hS : va_S A s.heap H locs := by rw [hH0, hlocs0]; exact hS
  have hl : lv_has ls 4 [(0, .ref (q 0)), (1, .int a1), (2, .int a2)] := hl
  suffices hgoal : W p l e rmX5_prior s m ([.ref (q 0), .int a1, .int a2] : List Value).toArray below meth c H locs 0 0 (MQ below (kQi D A res.1 (WX q cy res.2 ++ rest)) ([.ref (q 0), .int a1, .int a2] : List Value).toArray s 0 0 A) (F0 m 0 ls []) by rw [hH0, hlocs0] at hgoal; exact hgoal
  clear hH0 hlocs0
  unfold mX5_prior at hf
  refine lv_iload_n hx hb dX5_prior_0 rfl (lv_at hl 1 rfl) ?_
  refine lv_if_lt (tgt := 20) hx hb dX5_prior_1 (by decide) (fun c1 => ?_) (fun c1 => ?_)
  · have hf := o_ip c1 hf
    refine lv_aload_n hx hb dX5_prior_20 rfl (lv_at hl 0 rfl) ?_
    obtain ⟨r21, h21r, hf⟩ := o_bs hf
    refine k_goi (va_runV (As := []) (rest := []) ⟨hx, hb, hml, hown, hts⟩ (zX5_bad l D cy sa q rest H.size u  r21 h21r) (cwV 0 hts (gB_V wB102 wB103 wB104 wB2 wB105) rfl rfl rfl (by decide +kernel) ⟨Nat.le_of_ble_eq_true rfl, Nat.le_of_ble_eq_true rfl⟩) ⟨kP.blind, k_recv hE hP (ci := 5) (q0 := 0) rfl rfl, k_pre hP hD hS hE hA⟩ rfl rfl hl.1 rfl (lv_room (Nat.le_of_ble_eq_true rfl)) dX5_prior_21 ⟨Nat.zero_le _, Nat.zero_le _⟩) hD hS hA (fun H locs hP hD hS => ?_)
    obtain rfl := o_ret hf
    exact k_iret hx hb hr hP hD hS (Nat.zero_le _) (Nat.zero_le _) hlocks dX5_prior_24
  · have hf := o_in c1 hf
    refine lv_iload_n hx hb dX5_prior_4 rfl (lv_at hl 1 rfl) ?_
    refine lv_bipush (v := 7) hx hb dX5_prior_5 (by decide) ?_
    refine lv_icmp_ge (tgt := 20) hx hb dX5_prior_7 (by decide) (fun c7 => ?_) (fun c7 => ?_)
    · have hf := o_ip c7 hf
      refine lv_aload_n hx hb dX5_prior_20 rfl (lv_at hl 0 rfl) ?_
      obtain ⟨r21, h21r, hf⟩ := o_bs hf
      refine k_goi (va_runV (As := []) (rest := []) ⟨hx, hb, hml, hown, hts⟩ (zX5_bad l D cy sa q rest H.size u  r21 h21r) (cwV 0 hts (gB_V wB102 wB103 wB104 wB2 wB105) rfl rfl rfl (by decide +kernel) ⟨Nat.le_of_ble_eq_true rfl, Nat.le_of_ble_eq_true rfl⟩) ⟨kP.blind, k_recv hE hP (ci := 5) (q0 := 0) rfl rfl, k_pre hP hD hS hE hA⟩ rfl rfl hl.1 rfl (lv_room (Nat.le_of_ble_eq_true rfl)) dX5_prior_21 ⟨Nat.zero_le _, Nat.zero_le _⟩) hD hS hA (fun H locs hP hD hS => ?_)
      obtain rfl := o_ret hf
      exact k_iret hx hb hr hP hD hS (Nat.zero_le _) (Nat.zero_le _) hlocks dX5_prior_24
    · have hf := o_in c7 hf
      refine lv_iload_n hx hb dX5_prior_10 rfl (lv_at hl 2 rfl) ?_
      refine lv_if_lt (tgt := 20) hx hb dX5_prior_11 (by decide) (fun c11 => ?_) (fun c11 => ?_)
      · have hf := o_ip c11 hf
        refine lv_aload_n hx hb dX5_prior_20 rfl (lv_at hl 0 rfl) ?_
        obtain ⟨r21, h21r, hf⟩ := o_bs hf
        refine k_goi (va_runV (As := []) (rest := []) ⟨hx, hb, hml, hown, hts⟩ (zX5_bad l D cy sa q rest H.size u  r21 h21r) (cwV 0 hts (gB_V wB102 wB103 wB104 wB2 wB105) rfl rfl rfl (by decide +kernel) ⟨Nat.le_of_ble_eq_true rfl, Nat.le_of_ble_eq_true rfl⟩) ⟨kP.blind, k_recv hE hP (ci := 5) (q0 := 0) rfl rfl, k_pre hP hD hS hE hA⟩ rfl rfl hl.1 rfl (lv_room (Nat.le_of_ble_eq_true rfl)) dX5_prior_21 ⟨Nat.zero_le _, Nat.zero_le _⟩) hD hS hA (fun H locs hP hD hS => ?_)
        obtain rfl := o_ret hf
        exact k_iret hx hb hr hP hD hS (Nat.zero_le _) (Nat.zero_le _) hlocks dX5_prior_24
      · have hf := o_in c11 hf
        refine lv_iload_n hx hb dX5_prior_14 rfl (lv_at hl 2 rfl) ?_
        refine lv_bipush (v := 9) hx hb dX5_prior_15 (by decide) ?_
        refine lv_icmp_le (tgt := 25) hx hb dX5_prior_17 (by decide) (fun c17 => ?_) (fun c17 => ?_)
        · have hf := o_ip c17 hf
          refine lv_aload_n hx hb dX5_prior_25 rfl (lv_at hl 0 rfl) ?_
          refine va_get (ci := 5) (v := .ref (q 3)) (C := RX5) (T := TX5) (N := 9) hx hb hts inlX5 hown hE.1 hP 0 rfl rfl 0 (by decide) (hts _ wB16) (fun _ h9 => h9) rfl dX5_prior_26 ?_
          refine va_get (ci := 3) (v := .ref (q 6)) (C := RX3) (T := TX3) (N := 9) hx hb hts inlX3 hown hE.1 hP 3 rfl rfl 3 (by decide) (hts _ wB271) (fun _ h9 => h9) rfl dX5_prior_29 ?_
          refine lv_iload_n hx hb dX5_prior_32 rfl (lv_at hl 1 rfl) ?_
          obtain ⟨r33, h33r, hf⟩ := o_bs hf
          refine k_goi (va_runS (As := [.ref (q 6), .int a1]) (rest := []) ⟨hx, hb, hml, hown, hts⟩ (zX5_at l D cy sa (WX q cy u ++ rest) H.size 6 (q 6) 7 (gR u 3) a1 r33 rfl h33r) (va_cwS 2 hts (gB_S wB110 wB111 wB2 wB112) rfl rfl rfl (by decide +kernel) ⟨Nat.le_of_ble_eq_true rfl, Nat.le_of_ble_eq_true rfl⟩) ⟨kP.blind, k_pre hP hD hS hE hA⟩ rfl rfl hl.1 rfl (lv_room (Nat.le_of_ble_eq_true rfl)) dX5_prior_33 ⟨Nat.zero_le _, Nat.zero_le _⟩) hD hS hA (fun H locs hP hD hS => ?_)
          refine lv_istore_n (lv' := [(3, .int r33), (0, .ref (q 0)), (1, .int a1), (2, .int a2)]) hx hb dX5_prior_36 rfl hl (by decide) rfl (fun ls hl => ?_)
          refine lv_aload_n hx hb dX5_prior_37 rfl (lv_at hl 1 rfl) ?_
          refine va_get (ci := 5) (v := .ref (q 3)) (C := RX5) (T := TX5) (N := 9) hx hb hts inlX5 hown hE.1 hP 0 rfl rfl 0 (by decide) (hts _ wB16) (fun _ h9 => h9) rfl dX5_prior_38 ?_
          refine va_get (ci := 3) (v := .ref (q 6)) (C := RX3) (T := TX3) (N := 9) hx hb hts inlX3 hown hE.1 hP 3 rfl rfl 3 (by decide) (hts _ wB271) (fun _ h9 => h9) rfl dX5_prior_41 ?_
          refine lv_iload_n hx hb dX5_prior_44 rfl (lv_at hl 2 rfl) ?_
          refine lv_iload_n hx hb dX5_prior_45 rfl (lv_at hl 3 rfl) ?_
          obtain ⟨r46, h46r, hf⟩ := o_bs hf
          refine k_gov (va_runS (As := [.ref (q 6), .int a1, .int a2]) (rest := []) ⟨hx, hb, hml, hown, hts⟩ (zX5_set l D cy sa (WX q cy u ++ rest) H.size 6 (q 6) 7 (gR u 3) a1 a2 r46 rfl h46r) (va_cwS 3 hts (gB_S wB113 wB114 wB2 wB115) rfl rfl rfl (by decide +kernel) ⟨Nat.le_of_ble_eq_true rfl, Nat.le_of_ble_eq_true rfl⟩) ⟨kP.blind, k_pre hP hD hS hE hA⟩ rfl rfl hl.1 rfl (lv_room (Nat.le_of_ble_eq_true rfl)) dX5_prior_46 ⟨Nat.zero_le _, Nat.zero_le _⟩) hD hS hA (fun H locs hP hD hS => ?_)
          have hP : va_P D vwCl (WX q cy (sR u 3 r46) ++ rest) H := hP
          have hD : va_D A (WX q cy (sR u 3 r46) ++ rest) := hD
          refine lv_aload_n hx hb dX5_prior_49 rfl (lv_at hl 1 rfl) ?_
          refine lv_iconst (v := 1) hx hb dX5_prior_50 (by decide) ?_
          refine va_put (ci := 5) (v := .int 1) (ty := .boolean) (C := RX5) (T := TX5) (N := 9) hx hb hts inlX5 tyX5 tyX5_ok nmX5 hown hE.1 hP hD hS 0 rfl rfl 8 (by decide) (hts _ wB37) (fun _ h9 => h9) rfl (by decide +kernel) rfl rfl (Nat.le_of_ble_eq_true rfl) dX5_prior_51 (fun H locs hP hD hS => ?_)
          have hQ : ∀ (xb : KS) (x0 : (Nat → Int32)) (xn : Int32), (WX q cy (sR xb 3 x0) ++ rest).set 0 (q 0, .inr (5, [.ref (q 3), .ref (q 1), .ref (q 10), .ref (q 15), .ref (q 19), .ref (q 21), .ref (q 2), .int (gI (sR xb 3 x0) 0), .int (gI (sR xb 3 x0) 1)].set 8 (.int xn))) = WX q cy (sR (sI xb 1 xn) 3 x0) ++ rest := fun _ _ _ => rfl
          have hP : va_P D vwCl (WX q cy (sR (sI u 1 1) 3 r46) ++ rest) H := k_wP (hQ u r46 1) hP
          have hD : va_D A (WX q cy (sR (sI u 1 1) 3 r46) ++ rest) := k_wD (hQ u r46 1) hD
          clear hQ
          refine lv_iload_n hx hb dX5_prior_54 rfl (lv_at hl 0 rfl) ?_
          obtain rfl := o_ret hf
          exact k_iret hx hb hr hP hD hS (Nat.zero_le _) (Nat.zero_le _) hlocks dX5_prior_55
        · have hf := o_in c17 hf
          refine lv_aload_n hx hb dX5_prior_20 rfl (lv_at hl 0 rfl) ?_
          obtain ⟨r21, h21r, hf⟩ := o_bs hf
          refine k_goi (va_runV (As := []) (rest := []) ⟨hx, hb, hml, hown, hts⟩ (zX5_bad l D cy sa q rest H.size u  r21 h21r) (cwV 0 hts (gB_V wB102 wB103 wB104 wB2 wB105) rfl rfl rfl (by decide +kernel) ⟨Nat.le_of_ble_eq_true rfl, Nat.le_of_ble_eq_true rfl⟩) ⟨kP.blind, k_recv hE hP (ci := 5) (q0 := 0) rfl rfl, k_pre hP hD hS hE hA⟩ rfl rfl hl.1 rfl (lv_room (Nat.le_of_ble_eq_true rfl)) dX5_prior_21 ⟨Nat.zero_le _, Nat.zero_le _⟩) hD hS hA (fun H locs hP hD hS => ?_)
          obtain rfl := o_ret hf
          exact k_iret hx hb hr hP hD hS (Nat.zero_le _) (Nat.zero_le _) hlocks dX5_prior_24
noncomputable def mX5_put (u : KS) (a1 : Int32) (a2 : Int32) : Option (Int32 × KS) :=
  (mX5_isSetting a1 a2).bind fun r2 =>
  if r2 = 0 then
  ((mX5_bad u).bind fun r9 =>
  some (r9.1, r9.2))
  else
  ((mX5_at 4 (gR u 2) a1).bind fun r21 =>
  (mX5_set 4 (gR u 2) a1 a2).bind fun r34 =>
  (mX5_dayChanged (sR u 2 r34)).bind fun r38 =>
  some (r21, r38))
abbrev rmX5_put : Room := { frames := 3, cells := 0, slots := 0, locals := 64 }
set_option maxRecDepth 100000 in
set_option maxHeartbeats 4000000 in
theorem zX5_put (l : Launch) (D : va_G) (cy : Nat → ClassId) (sa : Nat → Nat) (q : Nat → Nat) (rest : va_W) (sz : Nat) (u : KS) (a1 : Int32) (a2 : Int32) (res : Int32 × KS) (hf : mX5_put u a1 a2 = some res) : kMi l yX5_put (wsK yX5_put cX5_put 4 (some .int)) rmX5_put D cy sa (WX q cy u ++ rest) sz [.ref (q 0), .int a1, .int a2] res.1 (WX q cy res.2 ++ rest) 0 0 := by
  refine kM_of (Qc := fun A => kQi D A res.1 (WX q cy res.2 ++ rest)) (cc := cX5_put) (maxL := 4) (ret := (some .int)) (by decide) (Nat.le_of_ble_eq_true rfl) ?_
  intro p e s m below meth c A hx hb hml hr hts hown hlocks hin hA hP hD hS hE hsz ls hl
  have hown : s.vm.findClass RX5 = some m.cls := hown
  obtain ⟨H, hH0⟩ : ∃ H, H = s.heap := ⟨_, rfl⟩
  obtain ⟨locs, hlocs0⟩ : ∃ locs : List Loc, locs = [] := ⟨_, rfl⟩
  have hP : va_P D vwCl (WX q cy u ++ rest) H := by rw [hH0]; exact hP
  have hS : va_S A s.heap H locs := by rw [hH0, hlocs0]; exact hS
  have hl : lv_has ls 4 [(0, .ref (q 0)), (1, .int a1), (2, .int a2)] := hl
  suffices hgoal : W p l e rmX5_put s m ([.ref (q 0), .int a1, .int a2] : List Value).toArray below meth c H locs 0 0 (MQ below (kQi D A res.1 (WX q cy res.2 ++ rest)) ([.ref (q 0), .int a1, .int a2] : List Value).toArray s 0 0 A) (F0 m 0 ls []) by rw [hH0, hlocs0] at hgoal; exact hgoal
  clear hH0 hlocs0
  unfold mX5_put at hf
  refine lv_iload_n hx hb dX5_put_0 rfl (lv_at hl 1 rfl) ?_
  refine lv_iload_n hx hb dX5_put_1 rfl (lv_at hl 2 rfl) ?_
  obtain ⟨r2, h2r, hf⟩ := o_bs hf
  refine k_goi (va_runS (As := [.int a1, .int a2]) (rest := []) ⟨hx, hb, hml, hown, hts⟩ (zX5_isSetting l D cy sa (WX q cy u ++ rest) H.size a1 a2  r2  h2r) (va_cwS 2 hts (gB_S wB137 wB138 wB2 wB139) rfl rfl rfl (by decide +kernel) ⟨Nat.le_of_ble_eq_true rfl, Nat.le_of_ble_eq_true rfl⟩) ⟨kP.blind, k_pre hP hD hS hE hA⟩ rfl rfl hl.1 rfl (lv_room (Nat.le_of_ble_eq_true rfl)) dX5_put_2 ⟨Nat.zero_le _, Nat.zero_le _⟩) hD hS hA (fun H locs hP hD hS => ?_)
  refine lv_if_ne (tgt := 13) hx hb dX5_put_5 (by decide) (fun c5 => ?_) (fun c5 => ?_)
  · have hf := o_in c5 hf
    refine lv_aload_n hx hb dX5_put_13 rfl (lv_at hl 0 rfl) ?_
    refine va_get (ci := 5) (v := .ref (q 3)) (C := RX5) (T := TX5) (N := 9) hx hb hts inlX5 hown hE.1 hP 0 rfl rfl 0 (by decide) (hts _ wB16) (fun _ h9 => h9) rfl dX5_put_14 ?_
    refine va_get (ci := 3) (v := .ref (q 5)) (C := RX3) (T := TX3) (N := 9) hx hb hts inlX3 hown hE.1 hP 3 rfl rfl 2 (by decide) (hts _ wB136) (fun _ h9 => h9) rfl dX5_put_17 ?_
    refine lv_iload_n hx hb dX5_put_20 rfl (lv_at hl 1 rfl) ?_
    obtain ⟨r21, h21r, hf⟩ := o_bs hf
    refine k_goi (va_runS (As := [.ref (q 5), .int a1]) (rest := []) ⟨hx, hb, hml, hown, hts⟩ (zX5_at l D cy sa (WX q cy u ++ rest) H.size 5 (q 5) 4 (gR u 2) a1 r21 rfl h21r) (va_cwS 2 hts (gB_S wB110 wB111 wB2 wB112) rfl rfl rfl (by decide +kernel) ⟨Nat.le_of_ble_eq_true rfl, Nat.le_of_ble_eq_true rfl⟩) ⟨kP.blind, k_pre hP hD hS hE hA⟩ rfl rfl hl.1 rfl (lv_room (Nat.le_of_ble_eq_true rfl)) dX5_put_21 ⟨Nat.zero_le _, Nat.zero_le _⟩) hD hS hA (fun H locs hP hD hS => ?_)
    refine lv_istore_n (lv' := [(3, .int r21), (0, .ref (q 0)), (1, .int a1), (2, .int a2)]) hx hb dX5_put_24 rfl hl (by decide) rfl (fun ls hl => ?_)
    refine lv_aload_n hx hb dX5_put_25 rfl (lv_at hl 1 rfl) ?_
    refine va_get (ci := 5) (v := .ref (q 3)) (C := RX5) (T := TX5) (N := 9) hx hb hts inlX5 hown hE.1 hP 0 rfl rfl 0 (by decide) (hts _ wB16) (fun _ h9 => h9) rfl dX5_put_26 ?_
    refine va_get (ci := 3) (v := .ref (q 5)) (C := RX3) (T := TX3) (N := 9) hx hb hts inlX3 hown hE.1 hP 3 rfl rfl 2 (by decide) (hts _ wB136) (fun _ h9 => h9) rfl dX5_put_29 ?_
    refine lv_iload_n hx hb dX5_put_32 rfl (lv_at hl 2 rfl) ?_
    refine lv_iload_n hx hb dX5_put_33 rfl (lv_at hl 3 rfl) ?_
    obtain ⟨r34, h34r, hf⟩ := o_bs hf
    refine k_gov (va_runS (As := [.ref (q 5), .int a1, .int a2]) (rest := []) ⟨hx, hb, hml, hown, hts⟩ (zX5_set l D cy sa (WX q cy u ++ rest) H.size 5 (q 5) 4 (gR u 2) a1 a2 r34 rfl h34r) (va_cwS 3 hts (gB_S wB113 wB114 wB2 wB115) rfl rfl rfl (by decide +kernel) ⟨Nat.le_of_ble_eq_true rfl, Nat.le_of_ble_eq_true rfl⟩) ⟨kP.blind, k_pre hP hD hS hE hA⟩ rfl rfl hl.1 rfl (lv_room (Nat.le_of_ble_eq_true rfl)) dX5_put_34 ⟨Nat.zero_le _, Nat.zero_le _⟩) hD hS hA (fun H locs hP hD hS => ?_)
    have hP : va_P D vwCl (WX q cy (sR u 2 r34) ++ rest) H := hP
    have hD : va_D A (WX q cy (sR u 2 r34) ++ rest) := hD
    refine lv_aload_n hx hb dX5_put_37 rfl (lv_at hl 1 rfl) ?_
    obtain ⟨r38, h38r, hf⟩ := o_bs hf
    refine k_gov (va_runV (As := []) (rest := []) ⟨hx, hb, hml, hown, hts⟩ (zX5_dayChanged l D cy sa q rest H.size (sR u 2 r34)  r38 h38r) (cwV 0 hts (gB_V wB120 wB121 wB122 wB2 wB123) rfl rfl rfl (by decide +kernel) ⟨Nat.le_of_ble_eq_true rfl, Nat.le_of_ble_eq_true rfl⟩) ⟨kP.blind, k_recv hE hP (ci := 5) (q0 := 0) rfl rfl, k_pre hP hD hS hE hA⟩ rfl rfl hl.1 rfl (lv_room (Nat.le_of_ble_eq_true rfl)) dX5_put_38 ⟨Nat.zero_le _, Nat.zero_le _⟩) hD hS hA (fun H locs hP hD hS => ?_)
    refine lv_iload_n hx hb dX5_put_41 rfl (lv_at hl 0 rfl) ?_
    obtain rfl := o_ret hf
    exact k_iret hx hb hr hP hD hS (Nat.zero_le _) (Nat.zero_le _) hlocks dX5_put_42
  · have hf := o_ip c5 hf
    refine lv_aload_n hx hb dX5_put_8 rfl (lv_at hl 0 rfl) ?_
    obtain ⟨r9, h9r, hf⟩ := o_bs hf
    refine k_goi (va_runV (As := []) (rest := []) ⟨hx, hb, hml, hown, hts⟩ (zX5_bad l D cy sa q rest H.size u  r9 h9r) (cwV 0 hts (gB_V wB102 wB103 wB104 wB2 wB105) rfl rfl rfl (by decide +kernel) ⟨Nat.le_of_ble_eq_true rfl, Nat.le_of_ble_eq_true rfl⟩) ⟨kP.blind, k_recv hE hP (ci := 5) (q0 := 0) rfl rfl, k_pre hP hD hS hE hA⟩ rfl rfl hl.1 rfl (lv_room (Nat.le_of_ble_eq_true rfl)) dX5_put_9 ⟨Nat.zero_le _, Nat.zero_le _⟩) hD hS hA (fun H locs hP hD hS => ?_)
    obtain rfl := o_ret hf
    exact k_iret hx hb hr hP hD hS (Nat.zero_le _) (Nat.zero_le _) hlocks dX5_put_12
noncomputable def mX5_sign (u : KS) (a1 : Int32) : Option (Int32 × KS) :=
  if a1 < 0 then
  ((mX5_bad u).bind fun r10 =>
  some (r10.1, r10.2))
  else
  (if a1 ≤ 2 then
  ((mX5_signOf u a1).bind fun r16 =>
  some (r16, u))
  else
  ((mX5_bad u).bind fun r10 =>
  some (r10.1, r10.2)))
abbrev rmX5_sign : Room := { frames := 3, cells := 0, slots := 0, locals := 64 }
set_option maxRecDepth 100000 in
set_option maxHeartbeats 4000000 in
theorem zX5_sign (l : Launch) (D : va_G) (cy : Nat → ClassId) (sa : Nat → Nat) (q : Nat → Nat) (rest : va_W) (sz : Nat) (u : KS) (a1 : Int32) (res : Int32 × KS) (hf : mX5_sign u a1 = some res) : kMi l yX5_sign (wsK yX5_sign cX5_sign 2 (some .int)) rmX5_sign D cy sa (WX q cy u ++ rest) sz [.ref (q 0), .int a1] res.1 (WX q cy res.2 ++ rest) 0 0 := by
  refine kM_of (Qc := fun A => kQi D A res.1 (WX q cy res.2 ++ rest)) (cc := cX5_sign) (maxL := 2) (ret := (some .int)) (by decide) (Nat.le_of_ble_eq_true rfl) ?_
  intro p e s m below meth c A hx hb hml hr hts hown hlocks hin hA hP hD hS hE hsz ls hl
  have hown : s.vm.findClass RX5 = some m.cls := hown
  obtain ⟨H, hH0⟩ : ∃ H, H = s.heap := ⟨_, rfl⟩
  obtain ⟨locs, hlocs0⟩ : ∃ locs : List Loc, locs = [] := ⟨_, rfl⟩
  have hP : va_P D vwCl (WX q cy u ++ rest) H := by rw [hH0]; exact hP
  have hS : va_S A s.heap H locs := by rw [hH0, hlocs0]; exact hS
  have hl : lv_has ls 2 [(0, .ref (q 0)), (1, .int a1)] := hl
  suffices hgoal : W p l e rmX5_sign s m ([.ref (q 0), .int a1] : List Value).toArray below meth c H locs 0 0 (MQ below (kQi D A res.1 (WX q cy res.2 ++ rest)) ([.ref (q 0), .int a1] : List Value).toArray s 0 0 A) (F0 m 0 ls []) by rw [hH0, hlocs0] at hgoal; exact hgoal
  clear hH0 hlocs0
  unfold mX5_sign at hf
  refine lv_iload_n hx hb dX5_sign_0 rfl (lv_at hl 1 rfl) ?_
  refine lv_if_lt (tgt := 9) hx hb dX5_sign_1 (by decide) (fun c1 => ?_) (fun c1 => ?_)
  · have hf := o_ip c1 hf
    refine lv_aload_n hx hb dX5_sign_9 rfl (lv_at hl 0 rfl) ?_
    obtain ⟨r10, h10r, hf⟩ := o_bs hf
    refine k_goi (va_runV (As := []) (rest := []) ⟨hx, hb, hml, hown, hts⟩ (zX5_bad l D cy sa q rest H.size u  r10 h10r) (cwV 0 hts (gB_V wB102 wB103 wB104 wB2 wB105) rfl rfl rfl (by decide +kernel) ⟨Nat.le_of_ble_eq_true rfl, Nat.le_of_ble_eq_true rfl⟩) ⟨kP.blind, k_recv hE hP (ci := 5) (q0 := 0) rfl rfl, k_pre hP hD hS hE hA⟩ rfl rfl hl.1 rfl (lv_room (Nat.le_of_ble_eq_true rfl)) dX5_sign_10 ⟨Nat.zero_le _, Nat.zero_le _⟩) hD hS hA (fun H locs hP hD hS => ?_)
    obtain rfl := o_ret hf
    exact k_iret hx hb hr hP hD hS (Nat.zero_le _) (Nat.zero_le _) hlocks dX5_sign_13
  · have hf := o_in c1 hf
    refine lv_iload_n hx hb dX5_sign_4 rfl (lv_at hl 1 rfl) ?_
    refine lv_iconst (v := 2) hx hb dX5_sign_5 (by decide) ?_
    refine lv_icmp_le (tgt := 14) hx hb dX5_sign_6 (by decide) (fun c6 => ?_) (fun c6 => ?_)
    · have hf := o_ip c6 hf
      refine lv_aload_n hx hb dX5_sign_14 rfl (lv_at hl 0 rfl) ?_
      refine lv_iload_n hx hb dX5_sign_15 rfl (lv_at hl 1 rfl) ?_
      obtain ⟨r16, h16r, hf⟩ := o_bs hf
      refine k_goi (va_runV (As := [.int a1]) (rest := []) ⟨hx, hb, hml, hown, hts⟩ (zX5_signOf l D cy sa q rest H.size u a1 r16 h16r) (cwV 1 hts (gB_V wB449 wB450 wB451 wB2 wB452) rfl rfl rfl (by decide +kernel) ⟨Nat.le_of_ble_eq_true rfl, Nat.le_of_ble_eq_true rfl⟩) ⟨kP.blind, k_recv hE hP (ci := 5) (q0 := 0) rfl rfl, k_pre hP hD hS hE hA⟩ rfl rfl hl.1 rfl (lv_room (Nat.le_of_ble_eq_true rfl)) dX5_sign_16 ⟨Nat.zero_le _, Nat.zero_le _⟩) hD hS hA (fun H locs hP hD hS => ?_)
      obtain rfl := o_ret hf
      exact k_iret hx hb hr hP hD hS (Nat.zero_le _) (Nat.zero_le _) hlocks dX5_sign_19
    · have hf := o_in c6 hf
      refine lv_aload_n hx hb dX5_sign_9 rfl (lv_at hl 0 rfl) ?_
      obtain ⟨r10, h10r, hf⟩ := o_bs hf
      refine k_goi (va_runV (As := []) (rest := []) ⟨hx, hb, hml, hown, hts⟩ (zX5_bad l D cy sa q rest H.size u  r10 h10r) (cwV 0 hts (gB_V wB102 wB103 wB104 wB2 wB105) rfl rfl rfl (by decide +kernel) ⟨Nat.le_of_ble_eq_true rfl, Nat.le_of_ble_eq_true rfl⟩) ⟨kP.blind, k_recv hE hP (ci := 5) (q0 := 0) rfl rfl, k_pre hP hD hS hE hA⟩ rfl rfl hl.1 rfl (lv_room (Nat.le_of_ble_eq_true rfl)) dX5_sign_10 ⟨Nat.zero_le _, Nat.zero_le _⟩) hD hS hA (fun H locs hP hD hS => ?_)
      obtain rfl := o_ret hf
      exact k_iret hx hb hr hP hD hS (Nat.zero_le _) (Nat.zero_le _) hlocks dX5_sign_13
noncomputable def mX5_smoke (u : KS) (a1 : Int32) (a2 : Int32) (a3 : Int32) : Option (Int32 × KS) :=
  (mX5_dayIsFaulty u).bind fun r1 =>
  if r1.1 = 0 then
  ((mX0_has r1.2 a1).bind fun r17 =>
  if r17 = 0 then
  ((mX5_bad r1.2).bind fun r38 =>
  some (r38.1, r38.2))
  else
  ((mX5_isColor a2).bind fun r24 =>
  if r24 = 0 then
  ((mX5_bad r1.2).bind fun r38 =>
  some (r38.1, r38.2))
  else
  ((mX5_isCut a3).bind fun r31 =>
  if r31 = 0 then
  ((mX5_bad r1.2).bind fun r38 =>
  some (r38.1, r38.2))
  else
  ((mX5_smokeOf r1.2 a1 a2 a3).bind fun r46 =>
  some (r46, r1.2)))))
  else
  ((mX5_no r1.2).bind fun r8 =>
  some (r8.1, r8.2))
abbrev rmX5_smoke : Room := { frames := 10, cells := 0, slots := 0, locals := 217 }
set_option maxRecDepth 100000 in
set_option maxHeartbeats 4000000 in
theorem zX5_smoke (l : Launch) (D : va_G) (cy : Nat → ClassId) (sa : Nat → Nat) (q : Nat → Nat) (rest : va_W) (sz : Nat) (u : KS) (a1 : Int32) (a2 : Int32) (a3 : Int32) (res : Int32 × KS) (hf : mX5_smoke u a1 a2 a3 = some res) : kMi l yX5_smoke (wsK yX5_smoke cX5_smoke 4 (some .int)) rmX5_smoke D cy sa (WX q cy u ++ rest) sz [.ref (q 0), .int a1, .int a2, .int a3] res.1 (WX q cy res.2 ++ rest) 0 0 := by
  refine kM_of (Qc := fun A => kQi D A res.1 (WX q cy res.2 ++ rest)) (cc := cX5_smoke) (maxL := 4) (ret := (some .int)) (by decide) (Nat.le_of_ble_eq_true rfl) ?_
  intro p e s m below meth c A hx hb hml hr hts hown hlocks hin hA hP hD hS hE hsz ls hl
  have hown : s.vm.findClass RX5 = some m.cls := hown
  obtain ⟨H, hH0⟩ : ∃ H, H = s.heap := ⟨_, rfl⟩
  obtain ⟨locs, hlocs0⟩ : ∃ locs : List Loc, locs = [] := ⟨_, rfl⟩
  have hP : va_P D vwCl (WX q cy u ++ rest) H := by rw [hH0]; exact hP
  have hS : va_S A s.heap H locs := by rw [hH0, hlocs0]; exact hS
  have hl : lv_has ls 4 [(0, .ref (q 0)), (1, .int a1), (2, .int a2), (3, .int a3)] := hl
  suffices hgoal : W p l e rmX5_smoke s m ([.ref (q 0), .int a1, .int a2, .int a3] : List Value).toArray below meth c H locs 0 0 (MQ below (kQi D A res.1 (WX q cy res.2 ++ rest)) ([.ref (q 0), .int a1, .int a2, .int a3] : List Value).toArray s 0 0 A) (F0 m 0 ls []) by rw [hH0, hlocs0] at hgoal; exact hgoal
  clear hH0 hlocs0
  unfold mX5_smoke at hf
  refine lv_aload_n hx hb dX5_smoke_0 rfl (lv_at hl 0 rfl) ?_
  obtain ⟨r1, h1r, hf⟩ := o_bs hf
  refine k_goi (va_runV (As := []) (rest := []) ⟨hx, hb, hml, hown, hts⟩ (zX5_dayIsFaulty l D cy sa q rest H.size u  r1 h1r) (cwV 0 hts (gB_V wB295 wB296 wB297 wB2 wB298) rfl rfl rfl (by decide +kernel) ⟨Nat.le_of_ble_eq_true rfl, Nat.le_of_ble_eq_true rfl⟩) ⟨kP.blind, k_recv hE hP (ci := 5) (q0 := 0) rfl rfl, k_pre hP hD hS hE hA⟩ rfl rfl hl.1 rfl (lv_room (Nat.le_of_ble_eq_true rfl)) dX5_smoke_1 ⟨Nat.zero_le _, Nat.zero_le _⟩) hD hS hA (fun H locs hP hD hS => ?_)
  refine lv_if_eq (tgt := 12) hx hb dX5_smoke_4 (by decide) (fun c4 => ?_) (fun c4 => ?_)
  · have hf := o_ip c4 hf
    refine lv_aload_n hx hb dX5_smoke_12 rfl (lv_at hl 0 rfl) ?_
    refine va_get (ci := 5) (v := .ref (q 10)) (C := RX5) (T := TX5) (N := 9) hx hb hts inlX5 hown hE.1 hP 0 rfl rfl 2 (by decide) (hts _ wB21) (fun _ h9 => h9) rfl dX5_smoke_13 ?_
    refine lv_iload_n hx hb dX5_smoke_16 rfl (lv_at hl 1 rfl) ?_
    obtain ⟨r17, h17r, hf⟩ := o_bs hf
    refine k_goi (va_runV (As := [.int a1]) (rest := []) ⟨hx, hb, hml, hown, hts⟩ (zX0_has l D cy sa q rest H.size r1.2 a1 r17 h17r) (cwV 1 hts (gB_V wB318 wB319 wB320 wB20 wB321) rfl rfl rfl (by decide +kernel) ⟨Nat.le_of_ble_eq_true rfl, Nat.le_of_ble_eq_true rfl⟩) ⟨kP.blind, k_recv hE hP (ci := 0) (q0 := 10) rfl rfl, k_pre hP hD hS hE hA⟩ rfl rfl hl.1 rfl (lv_room (Nat.le_of_ble_eq_true rfl)) dX5_smoke_17 ⟨Nat.zero_le _, Nat.zero_le _⟩) hD hS hA (fun H locs hP hD hS => ?_)
    refine lv_if_eq (tgt := 37) hx hb dX5_smoke_20 (by decide) (fun c20 => ?_) (fun c20 => ?_)
    · have hf := o_ip c20 hf
      refine lv_aload_n hx hb dX5_smoke_37 rfl (lv_at hl 0 rfl) ?_
      obtain ⟨r38, h38r, hf⟩ := o_bs hf
      refine k_goi (va_runV (As := []) (rest := []) ⟨hx, hb, hml, hown, hts⟩ (zX5_bad l D cy sa q rest H.size r1.2  r38 h38r) (cwV 0 hts (gB_V wB102 wB103 wB104 wB2 wB105) rfl rfl rfl (by decide +kernel) ⟨Nat.le_of_ble_eq_true rfl, Nat.le_of_ble_eq_true rfl⟩) ⟨kP.blind, k_recv hE hP (ci := 5) (q0 := 0) rfl rfl, k_pre hP hD hS hE hA⟩ rfl rfl hl.1 rfl (lv_room (Nat.le_of_ble_eq_true rfl)) dX5_smoke_38 ⟨Nat.zero_le _, Nat.zero_le _⟩) hD hS hA (fun H locs hP hD hS => ?_)
      obtain rfl := o_ret hf
      exact k_iret hx hb hr hP hD hS (Nat.zero_le _) (Nat.zero_le _) hlocks dX5_smoke_41
    · have hf := o_in c20 hf
      refine lv_iload_n hx hb dX5_smoke_23 rfl (lv_at hl 2 rfl) ?_
      obtain ⟨r24, h24r, hf⟩ := o_bs hf
      refine k_goi (va_runS (As := [.int a2]) (rest := []) ⟨hx, hb, hml, hown, hts⟩ (zX5_isColor l D cy sa (WX q cy r1.2 ++ rest) H.size a2  r24  h24r) (va_cwS 1 hts (gB_S wB284 wB285 wB2 wB286) rfl rfl rfl (by decide +kernel) ⟨Nat.le_of_ble_eq_true rfl, Nat.le_of_ble_eq_true rfl⟩) ⟨kP.blind, k_pre hP hD hS hE hA⟩ rfl rfl hl.1 rfl (lv_room (Nat.le_of_ble_eq_true rfl)) dX5_smoke_24 ⟨Nat.zero_le _, Nat.zero_le _⟩) hD hS hA (fun H locs hP hD hS => ?_)
      refine lv_if_eq (tgt := 37) hx hb dX5_smoke_27 (by decide) (fun c27 => ?_) (fun c27 => ?_)
      · have hf := o_ip c27 hf
        refine lv_aload_n hx hb dX5_smoke_37 rfl (lv_at hl 0 rfl) ?_
        obtain ⟨r38, h38r, hf⟩ := o_bs hf
        refine k_goi (va_runV (As := []) (rest := []) ⟨hx, hb, hml, hown, hts⟩ (zX5_bad l D cy sa q rest H.size r1.2  r38 h38r) (cwV 0 hts (gB_V wB102 wB103 wB104 wB2 wB105) rfl rfl rfl (by decide +kernel) ⟨Nat.le_of_ble_eq_true rfl, Nat.le_of_ble_eq_true rfl⟩) ⟨kP.blind, k_recv hE hP (ci := 5) (q0 := 0) rfl rfl, k_pre hP hD hS hE hA⟩ rfl rfl hl.1 rfl (lv_room (Nat.le_of_ble_eq_true rfl)) dX5_smoke_38 ⟨Nat.zero_le _, Nat.zero_le _⟩) hD hS hA (fun H locs hP hD hS => ?_)
        obtain rfl := o_ret hf
        exact k_iret hx hb hr hP hD hS (Nat.zero_le _) (Nat.zero_le _) hlocks dX5_smoke_41
      · have hf := o_in c27 hf
        refine lv_iload_n hx hb dX5_smoke_30 rfl (lv_at hl 3 rfl) ?_
        obtain ⟨r31, h31r, hf⟩ := o_bs hf
        refine k_goi (va_runS (As := [.int a3]) (rest := []) ⟨hx, hb, hml, hown, hts⟩ (zX5_isCut l D cy sa (WX q cy r1.2 ++ rest) H.size a3  r31  h31r) (va_cwS 1 hts (gB_S wB287 wB288 wB2 wB289) rfl rfl rfl (by decide +kernel) ⟨Nat.le_of_ble_eq_true rfl, Nat.le_of_ble_eq_true rfl⟩) ⟨kP.blind, k_pre hP hD hS hE hA⟩ rfl rfl hl.1 rfl (lv_room (Nat.le_of_ble_eq_true rfl)) dX5_smoke_31 ⟨Nat.zero_le _, Nat.zero_le _⟩) hD hS hA (fun H locs hP hD hS => ?_)
        refine lv_if_ne (tgt := 42) hx hb dX5_smoke_34 (by decide) (fun c34 => ?_) (fun c34 => ?_)
        · have hf := o_in c34 hf
          refine lv_aload_n hx hb dX5_smoke_42 rfl (lv_at hl 0 rfl) ?_
          refine lv_iload_n hx hb dX5_smoke_43 rfl (lv_at hl 1 rfl) ?_
          refine lv_iload_n hx hb dX5_smoke_44 rfl (lv_at hl 2 rfl) ?_
          refine lv_iload_n hx hb dX5_smoke_45 rfl (lv_at hl 3 rfl) ?_
          obtain ⟨r46, h46r, hf⟩ := o_bs hf
          refine k_goi (va_runV (As := [.int a1, .int a2, .int a3]) (rest := []) ⟨hx, hb, hml, hown, hts⟩ (zX5_smokeOf l D cy sa q rest H.size r1.2 a1 a2 a3 r46 h46r) (cwV 3 hts (gB_V wB356 wB357 wB358 wB2 wB359) rfl rfl rfl (by decide +kernel) ⟨Nat.le_of_ble_eq_true rfl, Nat.le_of_ble_eq_true rfl⟩) ⟨kP.blind, k_recv hE hP (ci := 5) (q0 := 0) rfl rfl, k_pre hP hD hS hE hA⟩ rfl rfl hl.1 rfl (lv_room (Nat.le_of_ble_eq_true rfl)) dX5_smoke_46 ⟨Nat.zero_le _, Nat.zero_le _⟩) hD hS hA (fun H locs hP hD hS => ?_)
          obtain rfl := o_ret hf
          exact k_iret hx hb hr hP hD hS (Nat.zero_le _) (Nat.zero_le _) hlocks dX5_smoke_49
        · have hf := o_ip c34 hf
          refine lv_aload_n hx hb dX5_smoke_37 rfl (lv_at hl 0 rfl) ?_
          obtain ⟨r38, h38r, hf⟩ := o_bs hf
          refine k_goi (va_runV (As := []) (rest := []) ⟨hx, hb, hml, hown, hts⟩ (zX5_bad l D cy sa q rest H.size r1.2  r38 h38r) (cwV 0 hts (gB_V wB102 wB103 wB104 wB2 wB105) rfl rfl rfl (by decide +kernel) ⟨Nat.le_of_ble_eq_true rfl, Nat.le_of_ble_eq_true rfl⟩) ⟨kP.blind, k_recv hE hP (ci := 5) (q0 := 0) rfl rfl, k_pre hP hD hS hE hA⟩ rfl rfl hl.1 rfl (lv_room (Nat.le_of_ble_eq_true rfl)) dX5_smoke_38 ⟨Nat.zero_le _, Nat.zero_le _⟩) hD hS hA (fun H locs hP hD hS => ?_)
          obtain rfl := o_ret hf
          exact k_iret hx hb hr hP hD hS (Nat.zero_le _) (Nat.zero_le _) hlocks dX5_smoke_41
  · have hf := o_in c4 hf
    refine lv_aload_n hx hb dX5_smoke_7 rfl (lv_at hl 0 rfl) ?_
    obtain ⟨r8, h8r, hf⟩ := o_bs hf
    refine k_goi (va_runV (As := []) (rest := []) ⟨hx, hb, hml, hown, hts⟩ (zX5_no l D cy sa q rest H.size r1.2  r8 h8r) (cwV 0 hts (gB_V wB299 wB300 wB301 wB2 wB302) rfl rfl rfl (by decide +kernel) ⟨Nat.le_of_ble_eq_true rfl, Nat.le_of_ble_eq_true rfl⟩) ⟨kP.blind, k_recv hE hP (ci := 5) (q0 := 0) rfl rfl, k_pre hP hD hS hE hA⟩ rfl rfl hl.1 rfl (lv_room (Nat.le_of_ble_eq_true rfl)) dX5_smoke_8 ⟨Nat.zero_le _, Nat.zero_le _⟩) hD hS hA (fun H locs hP hD hS => ?_)
    obtain rfl := o_ret hf
    exact k_iret hx hb hr hP hD hS (Nat.zero_le _) (Nat.zero_le _) hlocks dX5_smoke_11
noncomputable def mX5_status (u : KS) (a1 : Int32) : Option (Int32 × KS) :=
  if a1 < 0 then
  ((mX5_bad u).bind fun r14 =>
  some ((-1), r14.2))
  else
  (if a1 < 3 then
  (gd (inb a1 3) (some (((gR u 0) (a1.toNatClampNeg)), u)))
  else
  ((mX5_bad u).bind fun r14 =>
  some ((-1), r14.2)))
abbrev rmX5_status : Room := { frames := 3, cells := 0, slots := 0, locals := 64 }
set_option maxRecDepth 100000 in
set_option maxHeartbeats 4000000 in
theorem zX5_status (l : Launch) (D : va_G) (cy : Nat → ClassId) (sa : Nat → Nat) (q : Nat → Nat) (rest : va_W) (sz : Nat) (u : KS) (a1 : Int32) (res : Int32 × KS) (hf : mX5_status u a1 = some res) : kMi l yX5_status (wsK yX5_status cX5_status 2 (some .int)) rmX5_status D cy sa (WX q cy u ++ rest) sz [.ref (q 0), .int a1] res.1 (WX q cy res.2 ++ rest) 0 0 := by
  refine kM_of (Qc := fun A => kQi D A res.1 (WX q cy res.2 ++ rest)) (cc := cX5_status) (maxL := 2) (ret := (some .int)) (by decide) (Nat.le_of_ble_eq_true rfl) ?_
  intro p e s m below meth c A hx hb hml hr hts hown hlocks hin hA hP hD hS hE hsz ls hl
  have hown : s.vm.findClass RX5 = some m.cls := hown
  obtain ⟨H, hH0⟩ : ∃ H, H = s.heap := ⟨_, rfl⟩
  obtain ⟨locs, hlocs0⟩ : ∃ locs : List Loc, locs = [] := ⟨_, rfl⟩
  have hP : va_P D vwCl (WX q cy u ++ rest) H := by rw [hH0]; exact hP
  have hS : va_S A s.heap H locs := by rw [hH0, hlocs0]; exact hS
  have hl : lv_has ls 2 [(0, .ref (q 0)), (1, .int a1)] := hl
  suffices hgoal : W p l e rmX5_status s m ([.ref (q 0), .int a1] : List Value).toArray below meth c H locs 0 0 (MQ below (kQi D A res.1 (WX q cy res.2 ++ rest)) ([.ref (q 0), .int a1] : List Value).toArray s 0 0 A) (F0 m 0 ls []) by rw [hH0, hlocs0] at hgoal; exact hgoal
  clear hH0 hlocs0
  unfold mX5_status at hf
  refine lv_iload_n hx hb dX5_status_0 rfl (lv_at hl 1 rfl) ?_
  refine lv_if_lt (tgt := 13) hx hb dX5_status_1 (by decide) (fun c1 => ?_) (fun c1 => ?_)
  · have hf := o_ip c1 hf
    refine lv_aload_n hx hb dX5_status_13 rfl (lv_at hl 0 rfl) ?_
    obtain ⟨r14, h14r, hf⟩ := o_bs hf
    refine k_goi (va_runV (As := []) (rest := []) ⟨hx, hb, hml, hown, hts⟩ (zX5_bad l D cy sa q rest H.size u  r14 h14r) (cwV 0 hts (gB_V wB102 wB103 wB104 wB2 wB105) rfl rfl rfl (by decide +kernel) ⟨Nat.le_of_ble_eq_true rfl, Nat.le_of_ble_eq_true rfl⟩) ⟨kP.blind, k_recv hE hP (ci := 5) (q0 := 0) rfl rfl, k_pre hP hD hS hE hA⟩ rfl rfl hl.1 rfl (lv_room (Nat.le_of_ble_eq_true rfl)) dX5_status_14 ⟨Nat.zero_le _, Nat.zero_le _⟩) hD hS hA (fun H locs hP hD hS => ?_)
    refine lv_pop hx hb dX5_status_17 rfl ?_
    refine lv_iconst (v := (-1)) hx hb dX5_status_18 (by decide) ?_
    obtain rfl := o_ret hf
    exact k_iret hx hb hr hP hD hS (Nat.zero_le _) (Nat.zero_le _) hlocks dX5_status_19
  · have hf := o_in c1 hf
    refine lv_iload_n hx hb dX5_status_4 rfl (lv_at hl 1 rfl) ?_
    refine lv_aload_n hx hb dX5_status_5 rfl (lv_at hl 0 rfl) ?_
    refine va_get (ci := 5) (v := .ref (q 2)) (C := RX5) (T := TX5) (N := 9) hx hb hts inlX5 hown hE.1 hP 0 rfl rfl 6 (by decide) (hts _ wB35) (fun _ h9 => h9) rfl dX5_status_6 ?_
    refine va_alen (v := 3) hx hb hE.1 hP 2 0 rfl rfl rfl dX5_status_9 ?_
    refine lv_icmp_lt (tgt := 20) hx hb dX5_status_10 (by decide) (fun c10 => ?_) (fun c10 => ?_)
    · have hf := o_ip c10 hf
      refine lv_aload_n hx hb dX5_status_20 rfl (lv_at hl 0 rfl) ?_
      refine va_get (ci := 5) (v := .ref (q 2)) (C := RX5) (T := TX5) (N := 9) hx hb hts inlX5 hown hE.1 hP 0 rfl rfl 6 (by decide) (hts _ wB35) (fun _ h9 => h9) rfl dX5_status_21 ?_
      refine lv_iload_n hx hb dX5_status_24 rfl (lv_at hl 1 rfl) ?_
      obtain ⟨hg25, hf⟩ := gd_s hf
      refine va_iald (f := (gR u 0)) hx hb hE.1 hP 2 0 rfl rfl hg25 dX5_status_25 ?_
      obtain rfl := o_ret hf
      exact k_iret hx hb hr hP hD hS (Nat.zero_le _) (Nat.zero_le _) hlocks dX5_status_26
    · have hf := o_in c10 hf
      refine lv_aload_n hx hb dX5_status_13 rfl (lv_at hl 0 rfl) ?_
      obtain ⟨r14, h14r, hf⟩ := o_bs hf
      refine k_goi (va_runV (As := []) (rest := []) ⟨hx, hb, hml, hown, hts⟩ (zX5_bad l D cy sa q rest H.size u  r14 h14r) (cwV 0 hts (gB_V wB102 wB103 wB104 wB2 wB105) rfl rfl rfl (by decide +kernel) ⟨Nat.le_of_ble_eq_true rfl, Nat.le_of_ble_eq_true rfl⟩) ⟨kP.blind, k_recv hE hP (ci := 5) (q0 := 0) rfl rfl, k_pre hP hD hS hE hA⟩ rfl rfl hl.1 rfl (lv_room (Nat.le_of_ble_eq_true rfl)) dX5_status_14 ⟨Nat.zero_le _, Nat.zero_le _⟩) hD hS hA (fun H locs hP hD hS => ?_)
      refine lv_pop hx hb dX5_status_17 rfl ?_
      refine lv_iconst (v := (-1)) hx hb dX5_status_18 (by decide) ?_
      obtain rfl := o_ret hf
      exact k_iret hx hb hr hP hD hS (Nat.zero_le _) (Nat.zero_le _) hlocks dX5_status_19
noncomputable def mX5_two (u : KS) : Option (Int32 × KS) :=
  (mX5_noGuesses u).bind fun r1 =>
  if r1.1 = 0 then
  ((mX2_ofTwo r1.2).bind fun r20 =>
  (mX1_setShare r1.2 r20 (gL r1.2 0)).bind fun r30 =>
  some (1, r30))
  else
  ((mX5_no r1.2).bind fun r8 =>
  some (r8.1, r8.2))
abbrev rmX5_two : Room := { frames := 10, cells := 0, slots := 0, locals := 217 }
set_option maxRecDepth 100000 in
set_option maxHeartbeats 4000000 in
theorem zX5_two (l : Launch) (D : va_G) (cy : Nat → ClassId) (sa : Nat → Nat) (q : Nat → Nat) (rest : va_W) (sz : Nat) (u : KS) (res : Int32 × KS) (hf : mX5_two u = some res) : kMi l yX5_two (wsK yX5_two cX5_two 1 (some .int)) rmX5_two D cy sa (WX q cy u ++ rest) sz [.ref (q 0)] res.1 (WX q cy res.2 ++ rest) 0 0 := by
  refine kM_of (Qc := fun A => kQi D A res.1 (WX q cy res.2 ++ rest)) (cc := cX5_two) (maxL := 1) (ret := (some .int)) (by decide) (Nat.le_of_ble_eq_true rfl) ?_
  intro p e s m below meth c A hx hb hml hr hts hown hlocks hin hA hP hD hS hE hsz ls hl
  have hown : s.vm.findClass RX5 = some m.cls := hown
  obtain ⟨H, hH0⟩ : ∃ H, H = s.heap := ⟨_, rfl⟩
  obtain ⟨locs, hlocs0⟩ : ∃ locs : List Loc, locs = [] := ⟨_, rfl⟩
  have hP : va_P D vwCl (WX q cy u ++ rest) H := by rw [hH0]; exact hP
  have hS : va_S A s.heap H locs := by rw [hH0, hlocs0]; exact hS
  have hl : lv_has ls 1 [(0, .ref (q 0))] := hl
  suffices hgoal : W p l e rmX5_two s m ([.ref (q 0)] : List Value).toArray below meth c H locs 0 0 (MQ below (kQi D A res.1 (WX q cy res.2 ++ rest)) ([.ref (q 0)] : List Value).toArray s 0 0 A) (F0 m 0 ls []) by rw [hH0, hlocs0] at hgoal; exact hgoal
  clear hH0 hlocs0
  unfold mX5_two at hf
  refine lv_aload_n hx hb dX5_two_0 rfl (lv_at hl 0 rfl) ?_
  obtain ⟨r1, h1r, hf⟩ := o_bs hf
  refine k_goi (va_runV (As := []) (rest := []) ⟨hx, hb, hml, hown, hts⟩ (zX5_noGuesses l D cy sa q rest H.size u  r1 h1r) (cwV 0 hts (gB_V wB368 wB369 wB370 wB2 wB371) rfl rfl rfl (by decide +kernel) ⟨Nat.le_of_ble_eq_true rfl, Nat.le_of_ble_eq_true rfl⟩) ⟨kP.blind, k_recv hE hP (ci := 5) (q0 := 0) rfl rfl, k_pre hP hD hS hE hA⟩ rfl rfl hl.1 rfl (lv_room (Nat.le_of_ble_eq_true rfl)) dX5_two_1 ⟨Nat.zero_le _, Nat.zero_le _⟩) hD hS hA (fun H locs hP hD hS => ?_)
  refine lv_if_eq (tgt := 12) hx hb dX5_two_4 (by decide) (fun c4 => ?_) (fun c4 => ?_)
  · have hf := o_ip c4 hf
    refine lv_aload_n hx hb dX5_two_12 rfl (lv_at hl 0 rfl) ?_
    refine va_get (ci := 5) (v := .ref (q 21)) (C := RX5) (T := TX5) (N := 9) hx hb hts inlX5 hown hE.1 hP 0 rfl rfl 5 (by decide) (hts _ wB33) (fun _ h9 => h9) rfl dX5_two_13 ?_
    refine lv_aload_n hx hb dX5_two_16 rfl (lv_at hl 0 rfl) ?_
    refine va_get (ci := 5) (v := .ref (q 15)) (C := RX5) (T := TX5) (N := 9) hx hb hts inlX5 hown hE.1 hP 0 rfl rfl 3 (by decide) (hts _ wB25) (fun _ h9 => h9) rfl dX5_two_17 ?_
    obtain ⟨r20, h20r, hf⟩ := o_bs hf
    refine k_gol (va_runV (As := []) (rest := [.ref (q 21)]) ⟨hx, hb, hml, hown, hts⟩ (zX2_ofTwo l D cy sa q rest H.size r1.2  r20 h20r) (cwV 0 hts (gB_V wB419 wB420 wB421 wB24 wB422) rfl rfl rfl (by decide +kernel) ⟨Nat.le_of_ble_eq_true rfl, Nat.le_of_ble_eq_true rfl⟩) ⟨kP.blind, k_recv hE hP (ci := 2) (q0 := 15) rfl rfl, k_pre hP hD hS hE hA⟩ rfl rfl hl.1 rfl (lv_room (Nat.le_of_ble_eq_true rfl)) dX5_two_20 ⟨Nat.zero_le _, Nat.zero_le _⟩) hD hS hA (fun H locs hP hD hS => ?_)
    refine lv_aload_n hx hb dX5_two_23 rfl (lv_at hl 0 rfl) ?_
    refine va_get (ci := 5) (v := .ref (q 15)) (C := RX5) (T := TX5) (N := 9) hx hb hts inlX5 hown hE.1 hP 0 rfl rfl 3 (by decide) (hts _ wB25) (fun _ h9 => h9) rfl dX5_two_24 ?_
    refine va_get (ci := 2) (v := .long (gL r1.2 0)) (C := RX2) (T := TX2) (N := 4) hx hb hts inlX2 hown hE.1 hP 15 rfl rfl 0 (by decide) (hts _ wB372) (fun _ h9 => h9) rfl dX5_two_27 ?_
    obtain ⟨r30, h30r, hf⟩ := o_bs hf
    refine k_gov (va_runV (As := [.long r20, .long (gL r1.2 0)]) (rest := []) ⟨hx, hb, hml, hown, hts⟩ (zX1_setShare l D cy sa q rest H.size r1.2 r20 (gL r1.2 0) r30 h30r) (cwV 2 hts (gB_V wB423 wB424 wB425 wB32 wB426) rfl rfl rfl (by decide +kernel) ⟨Nat.le_of_ble_eq_true rfl, Nat.le_of_ble_eq_true rfl⟩) ⟨kP.blind, k_recv hE hP (ci := 1) (q0 := 21) rfl rfl, k_pre hP hD hS hE hA⟩ rfl rfl hl.1 rfl (lv_room (Nat.le_of_ble_eq_true rfl)) dX5_two_30 ⟨Nat.zero_le _, Nat.zero_le _⟩) hD hS hA (fun H locs hP hD hS => ?_)
    refine lv_iconst (v := 1) hx hb dX5_two_33 (by decide) ?_
    obtain rfl := o_ret hf
    exact k_iret hx hb hr hP hD hS (Nat.zero_le _) (Nat.zero_le _) hlocks dX5_two_34
  · have hf := o_in c4 hf
    refine lv_aload_n hx hb dX5_two_7 rfl (lv_at hl 0 rfl) ?_
    obtain ⟨r8, h8r, hf⟩ := o_bs hf
    refine k_goi (va_runV (As := []) (rest := []) ⟨hx, hb, hml, hown, hts⟩ (zX5_no l D cy sa q rest H.size r1.2  r8 h8r) (cwV 0 hts (gB_V wB299 wB300 wB301 wB2 wB302) rfl rfl rfl (by decide +kernel) ⟨Nat.le_of_ble_eq_true rfl, Nat.le_of_ble_eq_true rfl⟩) ⟨kP.blind, k_recv hE hP (ci := 5) (q0 := 0) rfl rfl, k_pre hP hD hS hE hA⟩ rfl rfl hl.1 rfl (lv_room (Nat.le_of_ble_eq_true rfl)) dX5_two_8 ⟨Nat.zero_le _, Nat.zero_le _⟩) hD hS hA (fun H locs hP hD hS => ?_)
    obtain rfl := o_ret hf
    exact k_iret hx hb hr hP hD hS (Nat.zero_le _) (Nat.zero_le _) hlocks dX5_two_11
noncomputable def mX5_type_s40 (c1 : Int64) (s40 : Int32 × KS) : Option ((KS) ⊕ (Int32 × KS)) :=
  if s40.1 < 0 then
  (some (.inl s40.2))
  else
  ((mX5_set 120 (gR s40.2 1) (gI s40.2 2) (((c1 >>> ((8 * s40.1).toInt64 &&& 63)).toInt32) &&& 255)).bind fun r71 =>
  some (.inr ((s40.1 + (-1)), (sR (sI s40.2 2 ((gI s40.2 2) + 1)) 1 r71))))
noncomputable def mX5_type (u : KS) (a1 : Int64) (a3 : Int32) : Option (Int32 × KS) :=
  if a3 < 1 then
  ((mX5_bad u).bind fun r12 =>
  some (r12.1, r12.2))
  else
  (if a3 ≤ 8 then
  (if ((gI u 2) + a3) ≤ 120 then
  ((lpF (mX5_type_s40 a1) ((a3 - 1), u)).bind fun e40 =>
  (mX5_dayChanged e40).bind fun r94 =>
  some ((gI r94 2), r94))
  else
  ((mX5_full u).bind fun r31 =>
  some (r31.1, r31.2)))
  else
  ((mX5_bad u).bind fun r12 =>
  some (r12.1, r12.2)))
abbrev rmX5_type : Room := { frames := 3, cells := 0, slots := 0, locals := 64 }
set_option maxRecDepth 100000 in
set_option maxHeartbeats 4000000 in
theorem zX5_type (l : Launch) (D : va_G) (cy : Nat → ClassId) (sa : Nat → Nat) (q : Nat → Nat) (rest : va_W) (sz : Nat) (u : KS) (a1 : Int64) (a3 : Int32) (res : Int32 × KS) (hf : mX5_type u a1 a3 = some res) : kMi l yX5_type (wsK yX5_type cX5_type 5 (some .int)) rmX5_type D cy sa (WX q cy u ++ rest) sz [.ref (q 0), .long a1, .int a3] res.1 (WX q cy res.2 ++ rest) 0 0 := by
  refine kM_of (Qc := fun A => kQi D A res.1 (WX q cy res.2 ++ rest)) (cc := cX5_type) (maxL := 5) (ret := (some .int)) (by decide) (Nat.le_of_ble_eq_true rfl) ?_
  intro p e s m below meth c A hx hb hml hr hts hown hlocks hin hA hP hD hS hE hsz ls hl
  have hown : s.vm.findClass RX5 = some m.cls := hown
  obtain ⟨H, hH0⟩ : ∃ H, H = s.heap := ⟨_, rfl⟩
  obtain ⟨locs, hlocs0⟩ : ∃ locs : List Loc, locs = [] := ⟨_, rfl⟩
  have hP : va_P D vwCl (WX q cy u ++ rest) H := by rw [hH0]; exact hP
  have hS : va_S A s.heap H locs := by rw [hH0, hlocs0]; exact hS
  have hl : lv_has ls 5 [(0, .ref (q 0)), (1, .long a1), (3, .int a3)] := hl
  suffices hgoal : W p l e rmX5_type s m ([.ref (q 0), .long a1, .int a3] : List Value).toArray below meth c H locs 0 0 (MQ below (kQi D A res.1 (WX q cy res.2 ++ rest)) ([.ref (q 0), .long a1, .int a3] : List Value).toArray s 0 0 A) (F0 m 0 ls []) by rw [hH0, hlocs0] at hgoal; exact hgoal
  clear hH0 hlocs0
  unfold mX5_type at hf
  refine lv_iload_n hx hb dX5_type_0 rfl (lv_at hl 2 rfl) ?_
  refine lv_iconst (v := 1) hx hb dX5_type_1 (by decide) ?_
  refine lv_icmp_lt (tgt := 11) hx hb dX5_type_2 (by decide) (fun c2 => ?_) (fun c2 => ?_)
  · have hf := o_ip c2 hf
    refine lv_aload_n hx hb dX5_type_11 rfl (lv_at hl 0 rfl) ?_
    obtain ⟨r12, h12r, hf⟩ := o_bs hf
    refine k_goi (va_runV (As := []) (rest := []) ⟨hx, hb, hml, hown, hts⟩ (zX5_bad l D cy sa q rest H.size u  r12 h12r) (cwV 0 hts (gB_V wB102 wB103 wB104 wB2 wB105) rfl rfl rfl (by decide +kernel) ⟨Nat.le_of_ble_eq_true rfl, Nat.le_of_ble_eq_true rfl⟩) ⟨kP.blind, k_recv hE hP (ci := 5) (q0 := 0) rfl rfl, k_pre hP hD hS hE hA⟩ rfl rfl hl.1 rfl (lv_room (Nat.le_of_ble_eq_true rfl)) dX5_type_12 ⟨Nat.zero_le _, Nat.zero_le _⟩) hD hS hA (fun H locs hP hD hS => ?_)
    obtain rfl := o_ret hf
    exact k_iret hx hb hr hP hD hS (Nat.zero_le _) (Nat.zero_le _) hlocks dX5_type_15
  · have hf := o_in c2 hf
    refine lv_iload_n hx hb dX5_type_5 rfl (lv_at hl 2 rfl) ?_
    refine lv_bipush (v := 8) hx hb dX5_type_6 (by decide) ?_
    refine lv_icmp_le (tgt := 16) hx hb dX5_type_8 (by decide) (fun c8 => ?_) (fun c8 => ?_)
    · have hf := o_ip c8 hf
      refine lv_aload_n hx hb dX5_type_16 rfl (lv_at hl 0 rfl) ?_
      refine va_get (ci := 5) (v := .ref (q 3)) (C := RX5) (T := TX5) (N := 9) hx hb hts inlX5 hown hE.1 hP 0 rfl rfl 0 (by decide) (hts _ wB16) (fun _ h9 => h9) rfl dX5_type_17 ?_
      refine va_get (ci := 3) (v := .int (gI u 2)) (C := RX3) (T := TX3) (N := 9) hx hb hts inlX3 hown hE.1 hP 3 rfl rfl 1 (by decide) (hts _ wB100) (fun _ h9 => h9) rfl dX5_type_20 ?_
      refine lv_iload_n hx hb dX5_type_23 rfl (lv_at hl 2 rfl) ?_
      refine lv_iadd hx hb dX5_type_24 ?_
      refine lv_bipush (v := 120) hx hb dX5_type_25 (by decide) ?_
      refine lv_icmp_le (tgt := 35) hx hb dX5_type_27 (by decide) (fun c27 => ?_) (fun c27 => ?_)
      · have hf := o_ip c27 hf
        refine lv_iload_n hx hb dX5_type_35 rfl (lv_at hl 2 rfl) ?_
        refine lv_iconst (v := 1) hx hb dX5_type_36 (by decide) ?_
        refine lv_isub hx hb dX5_type_37 ?_
        refine lv_istore (lv' := [(4, .int (a3 - 1)), (0, .ref (q 0)), (1, .long a1), (3, .int a3)]) hx hb dX5_type_38 hl (by decide) rfl (fun ls hl => ?_)
        have L40 : ∀ (n40v : Nat) (s40 : Int32 × KS) (e40 : KS), lpO (mX5_type_s40 a1) n40v s40 = some e40 → ∀ (H : Heap) (locs : List Loc) (ls : Array Slot), va_P D vwCl (WX q cy s40.2 ++ rest) H → va_D A (WX q cy s40.2 ++ rest) → va_S A s.heap H locs → lv_has ls 5 [(0, .ref (q 0)), (1, .long a1), (4, .int s40.1)] → (∀ (H : Heap) (locs : List Loc) (ls : Array Slot), va_P D vwCl (WX q cy e40 ++ rest) H → va_D A (WX q cy e40 ++ rest) → va_S A s.heap H locs → lv_has ls 5 [(0, .ref (q 0))] → W p l e rmX5_type s m ([.ref (q 0), .long a1, .int a3] : List Value).toArray below meth c H locs 0 0 (MQ below (kQi D A res.1 (WX q cy res.2 ++ rest)) ([.ref (q 0), .long a1, .int a3] : List Value).toArray s 0 0 A) (F0 m 93 ls [])) → W p l e rmX5_type s m ([.ref (q 0), .long a1, .int a3] : List Value).toArray below meth c H locs 0 0 (MQ below (kQi D A res.1 (WX q cy res.2 ++ rest)) ([.ref (q 0), .long a1, .int a3] : List Value).toArray s 0 0 A) (F0 m 40 ls []) := by
          intro n40v
          induction n40v with
          | zero => intro s40 e40 h; exact (lpO_z h).elim
          | succ n40v ih40 =>
            intro s40 e40 h40z H locs ls hP hD hS hl K40_0
            obtain ⟨x40, hf, h40z⟩ := lpO_s h40z
            unfold mX5_type_s40 at hf
            refine lv_iload hx hb dX5_type_40 (lv_at hl 2 rfl) ?_
            refine lv_if_lt (tgt := 93) hx hb dX5_type_42 (by decide) (fun c42 => ?_) (fun c42 => ?_)
            · have hf := o_ip c42 hf
              obtain rfl := o_ret hf
              obtain rfl := lpK_l h40z
              exact K40_0 _ _ _ hP hD hS (lv_sub hl [0] rfl)
            · have hf := o_in c42 hf
              refine lv_aload_n hx hb dX5_type_45 rfl (lv_at hl 0 rfl) ?_
              refine va_get (ci := 5) (v := .ref (q 3)) (C := RX5) (T := TX5) (N := 9) hx hb hts inlX5 hown hE.1 hP 0 rfl rfl 0 (by decide) (hts _ wB16) (fun _ h9 => h9) rfl dX5_type_46 ?_
              refine va_get (ci := 3) (v := .ref (q 4)) (C := RX3) (T := TX3) (N := 9) hx hb hts inlX3 hown hE.1 hP 3 rfl rfl 0 (by decide) (hts _ wB101) (fun _ h9 => h9) rfl dX5_type_49 ?_
              refine lv_aload_n hx hb dX5_type_52 rfl (lv_at hl 0 rfl) ?_
              refine va_get (ci := 5) (v := .ref (q 3)) (C := RX5) (T := TX5) (N := 9) hx hb hts inlX5 hown hE.1 hP 0 rfl rfl 0 (by decide) (hts _ wB16) (fun _ h9 => h9) rfl dX5_type_53 ?_
              refine va_get (ci := 3) (v := .int (gI s40.2 2)) (C := RX3) (T := TX3) (N := 9) hx hb hts inlX3 hown hE.1 hP 3 rfl rfl 1 (by decide) (hts _ wB100) (fun _ h9 => h9) rfl dX5_type_56 ?_
              refine lv_lload_n hx hb dX5_type_59 rfl (lv_at hl 1 rfl) ?_
              refine lv_bipush (v := 8) hx hb dX5_type_60 (by decide) ?_
              refine lv_iload hx hb dX5_type_62 (lv_at hl 2 rfl) ?_
              refine lv_imul hx hb dX5_type_64 ?_
              refine lv_lshr (v := (a1 >>> ((8 * s40.1).toInt64 &&& 63))) hx hb dX5_type_65 rfl ?_
              refine lv_l2i (v := ((a1 >>> ((8 * s40.1).toInt64 &&& 63)).toInt32)) hx hb dX5_type_66 rfl ?_
              refine lv_sipush (v := 255) hx hb dX5_type_67 (by decide) ?_
              refine lv_iand hx hb dX5_type_70 ?_
              obtain ⟨r71, h71r, hf⟩ := o_bs hf
              refine k_gov (va_runS (As := [.ref (q 4), .int (gI s40.2 2), .int (((a1 >>> ((8 * s40.1).toInt64 &&& 63)).toInt32) &&& 255)]) (rest := []) ⟨hx, hb, hml, hown, hts⟩ (zX5_set l D cy sa (WX q cy s40.2 ++ rest) H.size 4 (q 4) 120 (gR s40.2 1) (gI s40.2 2) (((a1 >>> ((8 * s40.1).toInt64 &&& 63)).toInt32) &&& 255) r71 rfl h71r) (va_cwS 3 hts (gB_S wB113 wB114 wB2 wB115) rfl rfl rfl (by decide +kernel) ⟨Nat.le_of_ble_eq_true rfl, Nat.le_of_ble_eq_true rfl⟩) ⟨kP.blind, k_pre hP hD hS hE hA⟩ rfl rfl hl.1 rfl (lv_room (Nat.le_of_ble_eq_true rfl)) dX5_type_71 ⟨Nat.zero_le _, Nat.zero_le _⟩) hD hS hA (fun H locs hP hD hS => ?_)
              have hP : va_P D vwCl (WX q cy (sR s40.2 1 r71) ++ rest) H := hP
              have hD : va_D A (WX q cy (sR s40.2 1 r71) ++ rest) := hD
              refine lv_aload_n hx hb dX5_type_74 rfl (lv_at hl 0 rfl) ?_
              refine va_get (ci := 5) (v := .ref (q 3)) (C := RX5) (T := TX5) (N := 9) hx hb hts inlX5 hown hE.1 hP 0 rfl rfl 0 (by decide) (hts _ wB16) (fun _ h9 => h9) rfl dX5_type_75 ?_
              refine lv_dup hx hb dX5_type_78 rfl ?_
              refine va_get (ci := 3) (v := .int (gI s40.2 2)) (C := RX3) (T := TX3) (N := 9) hx hb hts inlX3 hown hE.1 hP 3 rfl rfl 1 (by decide) (hts _ wB100) (fun _ h9 => h9) rfl dX5_type_79 ?_
              refine lv_iconst (v := 1) hx hb dX5_type_82 (by decide) ?_
              refine lv_iadd hx hb dX5_type_83 ?_
              refine va_put (ci := 3) (v := .int ((gI s40.2 2) + 1)) (ty := .int) (C := RX3) (T := TX3) (N := 9) hx hb hts inlX3 tyX3 tyX3_ok nmX3 hown hE.1 hP hD hS 3 rfl rfl 1 (by decide) (hts _ wB100) (fun _ h9 => h9) rfl (by decide +kernel) rfl rfl (Nat.le_of_ble_eq_true rfl) dX5_type_84 (fun H locs hP hD hS => ?_)
              have hQ : ∀ (xb : KS) (x0 : (Nat → Int32)) (xn : Int32), (WX q cy (sR xb 1 x0) ++ rest).set 3 (q 3, .inr (3, [.ref (q 4), .int (gI (sR xb 1 x0) 2), .ref (q 5), .ref (q 6), .ref (q 7), .ref (q 8), .int (gI (sR xb 1 x0) 3), .ref (q 9), .int (gI (sR xb 1 x0) 4)].set 1 (.int xn))) = WX q cy (sR (sI xb 2 xn) 1 x0) ++ rest := fun _ _ _ => rfl
              have hP : va_P D vwCl (WX q cy (sR (sI s40.2 2 ((gI s40.2 2) + 1)) 1 r71) ++ rest) H := k_wP (hQ s40.2 r71 ((gI s40.2 2) + 1)) hP
              have hD : va_D A (WX q cy (sR (sI s40.2 2 ((gI s40.2 2) + 1)) 1 r71) ++ rest) := k_wD (hQ s40.2 r71 ((gI s40.2 2) + 1)) hD
              clear hQ
              refine lv_iinc (v := (s40.1 + (-1))) (lv' := [(4, .int (s40.1 + (-1))), (0, .ref (q 0)), (1, .long a1)]) hx hb dX5_type_87 hl (k := 2) rfl (by rfl) (by decide) rfl (fun ls hl => ?_)
              refine lv_goto (tgt := 40) hx hb dX5_type_90 (by decide) ?_
              obtain rfl := o_ret hf
              exact ih40 _ _ (lpK_r h40z) _ _ _ hP hD hS (lv_sub hl [1, 2, 0] rfl) K40_0
        obtain ⟨e40, h40q, hf⟩ := o_bs hf
        obtain ⟨n40v, h40q⟩ := lpF_ex h40q
        refine L40 n40v _ e40 h40q _ _ _ hP hD hS (lv_sub hl [1, 2, 0] rfl) ?_
        intro H locs ls hP hD hS hl
        refine lv_aload_n hx hb dX5_type_93 rfl (lv_at hl 0 rfl) ?_
        obtain ⟨r94, h94r, hf⟩ := o_bs hf
        refine k_gov (va_runV (As := []) (rest := []) ⟨hx, hb, hml, hown, hts⟩ (zX5_dayChanged l D cy sa q rest H.size e40  r94 h94r) (cwV 0 hts (gB_V wB120 wB121 wB122 wB2 wB123) rfl rfl rfl (by decide +kernel) ⟨Nat.le_of_ble_eq_true rfl, Nat.le_of_ble_eq_true rfl⟩) ⟨kP.blind, k_recv hE hP (ci := 5) (q0 := 0) rfl rfl, k_pre hP hD hS hE hA⟩ rfl rfl hl.1 rfl (lv_room (Nat.le_of_ble_eq_true rfl)) dX5_type_94 ⟨Nat.zero_le _, Nat.zero_le _⟩) hD hS hA (fun H locs hP hD hS => ?_)
        refine lv_aload_n hx hb dX5_type_97 rfl (lv_at hl 0 rfl) ?_
        refine va_get (ci := 5) (v := .ref (q 3)) (C := RX5) (T := TX5) (N := 9) hx hb hts inlX5 hown hE.1 hP 0 rfl rfl 0 (by decide) (hts _ wB16) (fun _ h9 => h9) rfl dX5_type_98 ?_
        refine va_get (ci := 3) (v := .int (gI r94 2)) (C := RX3) (T := TX3) (N := 9) hx hb hts inlX3 hown hE.1 hP 3 rfl rfl 1 (by decide) (hts _ wB100) (fun _ h9 => h9) rfl dX5_type_101 ?_
        obtain rfl := o_ret hf
        exact k_iret hx hb hr hP hD hS (Nat.zero_le _) (Nat.zero_le _) hlocks dX5_type_104
      · have hf := o_in c27 hf
        refine lv_aload_n hx hb dX5_type_30 rfl (lv_at hl 0 rfl) ?_
        obtain ⟨r31, h31r, hf⟩ := o_bs hf
        refine k_goi (va_runV (As := []) (rest := []) ⟨hx, hb, hml, hown, hts⟩ (zX5_full l D cy sa q rest H.size u  r31 h31r) (cwV 0 hts (gB_V wB116 wB117 wB118 wB2 wB119) rfl rfl rfl (by decide +kernel) ⟨Nat.le_of_ble_eq_true rfl, Nat.le_of_ble_eq_true rfl⟩) ⟨kP.blind, k_recv hE hP (ci := 5) (q0 := 0) rfl rfl, k_pre hP hD hS hE hA⟩ rfl rfl hl.1 rfl (lv_room (Nat.le_of_ble_eq_true rfl)) dX5_type_31 ⟨Nat.zero_le _, Nat.zero_le _⟩) hD hS hA (fun H locs hP hD hS => ?_)
        obtain rfl := o_ret hf
        exact k_iret hx hb hr hP hD hS (Nat.zero_le _) (Nat.zero_le _) hlocks dX5_type_34
    · have hf := o_in c8 hf
      refine lv_aload_n hx hb dX5_type_11 rfl (lv_at hl 0 rfl) ?_
      obtain ⟨r12, h12r, hf⟩ := o_bs hf
      refine k_goi (va_runV (As := []) (rest := []) ⟨hx, hb, hml, hown, hts⟩ (zX5_bad l D cy sa q rest H.size u  r12 h12r) (cwV 0 hts (gB_V wB102 wB103 wB104 wB2 wB105) rfl rfl rfl (by decide +kernel) ⟨Nat.le_of_ble_eq_true rfl, Nat.le_of_ble_eq_true rfl⟩) ⟨kP.blind, k_recv hE hP (ci := 5) (q0 := 0) rfl rfl, k_pre hP hD hS hE hA⟩ rfl rfl hl.1 rfl (lv_room (Nat.le_of_ble_eq_true rfl)) dX5_type_12 ⟨Nat.zero_le _, Nat.zero_le _⟩) hD hS hA (fun H locs hP hD hS => ?_)
      obtain rfl := o_ret hf
      exact k_iret hx hb hr hP hD hS (Nat.zero_le _) (Nat.zero_le _) hlocks dX5_type_15
noncomputable def mX5_warm (u : KS) (a1 : Int32) : Option (Int32 × KS) :=
  (mX5_dayIsFaulty u).bind fun r1 =>
  if r1.1 = 0 then
  (if a1 < 0 then
  ((mX5_bad r1.2).bind fun r28 =>
  some (r28.1, r28.2))
  else
  (if a1 ≤ (gI r1.2 6) then
  ((mX5_at 121 (gR r1.2 7) a1).bind fun r40 =>
  some (r40, r1.2))
  else
  ((mX5_bad r1.2).bind fun r28 =>
  some (r28.1, r28.2))))
  else
  ((mX5_no r1.2).bind fun r8 =>
  some (r8.1, r8.2))
abbrev rmX5_warm : Room := { frames := 10, cells := 0, slots := 0, locals := 217 }
set_option maxRecDepth 100000 in
set_option maxHeartbeats 4000000 in
theorem zX5_warm (l : Launch) (D : va_G) (cy : Nat → ClassId) (sa : Nat → Nat) (q : Nat → Nat) (rest : va_W) (sz : Nat) (u : KS) (a1 : Int32) (res : Int32 × KS) (hf : mX5_warm u a1 = some res) : kMi l yX5_warm (wsK yX5_warm cX5_warm 2 (some .int)) rmX5_warm D cy sa (WX q cy u ++ rest) sz [.ref (q 0), .int a1] res.1 (WX q cy res.2 ++ rest) 0 0 := by
  refine kM_of (Qc := fun A => kQi D A res.1 (WX q cy res.2 ++ rest)) (cc := cX5_warm) (maxL := 2) (ret := (some .int)) (by decide) (Nat.le_of_ble_eq_true rfl) ?_
  intro p e s m below meth c A hx hb hml hr hts hown hlocks hin hA hP hD hS hE hsz ls hl
  have hown : s.vm.findClass RX5 = some m.cls := hown
  obtain ⟨H, hH0⟩ : ∃ H, H = s.heap := ⟨_, rfl⟩
  obtain ⟨locs, hlocs0⟩ : ∃ locs : List Loc, locs = [] := ⟨_, rfl⟩
  have hP : va_P D vwCl (WX q cy u ++ rest) H := by rw [hH0]; exact hP
  have hS : va_S A s.heap H locs := by rw [hH0, hlocs0]; exact hS
  have hl : lv_has ls 2 [(0, .ref (q 0)), (1, .int a1)] := hl
  suffices hgoal : W p l e rmX5_warm s m ([.ref (q 0), .int a1] : List Value).toArray below meth c H locs 0 0 (MQ below (kQi D A res.1 (WX q cy res.2 ++ rest)) ([.ref (q 0), .int a1] : List Value).toArray s 0 0 A) (F0 m 0 ls []) by rw [hH0, hlocs0] at hgoal; exact hgoal
  clear hH0 hlocs0
  unfold mX5_warm at hf
  refine lv_aload_n hx hb dX5_warm_0 rfl (lv_at hl 0 rfl) ?_
  obtain ⟨r1, h1r, hf⟩ := o_bs hf
  refine k_goi (va_runV (As := []) (rest := []) ⟨hx, hb, hml, hown, hts⟩ (zX5_dayIsFaulty l D cy sa q rest H.size u  r1 h1r) (cwV 0 hts (gB_V wB295 wB296 wB297 wB2 wB298) rfl rfl rfl (by decide +kernel) ⟨Nat.le_of_ble_eq_true rfl, Nat.le_of_ble_eq_true rfl⟩) ⟨kP.blind, k_recv hE hP (ci := 5) (q0 := 0) rfl rfl, k_pre hP hD hS hE hA⟩ rfl rfl hl.1 rfl (lv_room (Nat.le_of_ble_eq_true rfl)) dX5_warm_1 ⟨Nat.zero_le _, Nat.zero_le _⟩) hD hS hA (fun H locs hP hD hS => ?_)
  refine lv_if_eq (tgt := 12) hx hb dX5_warm_4 (by decide) (fun c4 => ?_) (fun c4 => ?_)
  · have hf := o_ip c4 hf
    refine lv_iload_n hx hb dX5_warm_12 rfl (lv_at hl 1 rfl) ?_
    refine lv_if_lt (tgt := 27) hx hb dX5_warm_13 (by decide) (fun c13 => ?_) (fun c13 => ?_)
    · have hf := o_ip c13 hf
      refine lv_aload_n hx hb dX5_warm_27 rfl (lv_at hl 0 rfl) ?_
      obtain ⟨r28, h28r, hf⟩ := o_bs hf
      refine k_goi (va_runV (As := []) (rest := []) ⟨hx, hb, hml, hown, hts⟩ (zX5_bad l D cy sa q rest H.size r1.2  r28 h28r) (cwV 0 hts (gB_V wB102 wB103 wB104 wB2 wB105) rfl rfl rfl (by decide +kernel) ⟨Nat.le_of_ble_eq_true rfl, Nat.le_of_ble_eq_true rfl⟩) ⟨kP.blind, k_recv hE hP (ci := 5) (q0 := 0) rfl rfl, k_pre hP hD hS hE hA⟩ rfl rfl hl.1 rfl (lv_room (Nat.le_of_ble_eq_true rfl)) dX5_warm_28 ⟨Nat.zero_le _, Nat.zero_le _⟩) hD hS hA (fun H locs hP hD hS => ?_)
      obtain rfl := o_ret hf
      exact k_iret hx hb hr hP hD hS (Nat.zero_le _) (Nat.zero_le _) hlocks dX5_warm_31
    · have hf := o_in c13 hf
      refine lv_iload_n hx hb dX5_warm_16 rfl (lv_at hl 1 rfl) ?_
      refine lv_aload_n hx hb dX5_warm_17 rfl (lv_at hl 0 rfl) ?_
      refine va_get (ci := 5) (v := .ref (q 10)) (C := RX5) (T := TX5) (N := 9) hx hb hts inlX5 hown hE.1 hP 0 rfl rfl 2 (by decide) (hts _ wB21) (fun _ h9 => h9) rfl dX5_warm_18 ?_
      refine va_get (ci := 0) (v := .int (gI r1.2 6)) (C := RX0) (T := TX0) (N := 9) hx hb hts inlX0 hown hE.1 hP 10 rfl rfl 1 (by decide) (hts _ wB294) (fun _ h9 => h9) rfl dX5_warm_21 ?_
      refine lv_icmp_le (tgt := 32) hx hb dX5_warm_24 (by decide) (fun c24 => ?_) (fun c24 => ?_)
      · have hf := o_ip c24 hf
        refine lv_aload_n hx hb dX5_warm_32 rfl (lv_at hl 0 rfl) ?_
        refine va_get (ci := 5) (v := .ref (q 10)) (C := RX5) (T := TX5) (N := 9) hx hb hts inlX5 hown hE.1 hP 0 rfl rfl 2 (by decide) (hts _ wB21) (fun _ h9 => h9) rfl dX5_warm_33 ?_
        refine va_get (ci := 0) (v := .ref (q 11)) (C := RX0) (T := TX0) (N := 9) hx hb hts inlX0 hown hE.1 hP 10 rfl rfl 2 (by decide) (hts _ wB307) (fun _ h9 => h9) rfl dX5_warm_36 ?_
        refine lv_iload_n hx hb dX5_warm_39 rfl (lv_at hl 1 rfl) ?_
        obtain ⟨r40, h40r, hf⟩ := o_bs hf
        refine k_goi (va_runS (As := [.ref (q 11), .int a1]) (rest := []) ⟨hx, hb, hml, hown, hts⟩ (zX5_at l D cy sa (WX q cy r1.2 ++ rest) H.size 11 (q 11) 121 (gR r1.2 7) a1 r40 rfl h40r) (va_cwS 2 hts (gB_S wB110 wB111 wB2 wB112) rfl rfl rfl (by decide +kernel) ⟨Nat.le_of_ble_eq_true rfl, Nat.le_of_ble_eq_true rfl⟩) ⟨kP.blind, k_pre hP hD hS hE hA⟩ rfl rfl hl.1 rfl (lv_room (Nat.le_of_ble_eq_true rfl)) dX5_warm_40 ⟨Nat.zero_le _, Nat.zero_le _⟩) hD hS hA (fun H locs hP hD hS => ?_)
        obtain rfl := o_ret hf
        exact k_iret hx hb hr hP hD hS (Nat.zero_le _) (Nat.zero_le _) hlocks dX5_warm_43
      · have hf := o_in c24 hf
        refine lv_aload_n hx hb dX5_warm_27 rfl (lv_at hl 0 rfl) ?_
        obtain ⟨r28, h28r, hf⟩ := o_bs hf
        refine k_goi (va_runV (As := []) (rest := []) ⟨hx, hb, hml, hown, hts⟩ (zX5_bad l D cy sa q rest H.size r1.2  r28 h28r) (cwV 0 hts (gB_V wB102 wB103 wB104 wB2 wB105) rfl rfl rfl (by decide +kernel) ⟨Nat.le_of_ble_eq_true rfl, Nat.le_of_ble_eq_true rfl⟩) ⟨kP.blind, k_recv hE hP (ci := 5) (q0 := 0) rfl rfl, k_pre hP hD hS hE hA⟩ rfl rfl hl.1 rfl (lv_room (Nat.le_of_ble_eq_true rfl)) dX5_warm_28 ⟨Nat.zero_le _, Nat.zero_le _⟩) hD hS hA (fun H locs hP hD hS => ?_)
        obtain rfl := o_ret hf
        exact k_iret hx hb hr hP hD hS (Nat.zero_le _) (Nat.zero_le _) hlocks dX5_warm_31
  · have hf := o_in c4 hf
    refine lv_aload_n hx hb dX5_warm_7 rfl (lv_at hl 0 rfl) ?_
    obtain ⟨r8, h8r, hf⟩ := o_bs hf
    refine k_goi (va_runV (As := []) (rest := []) ⟨hx, hb, hml, hown, hts⟩ (zX5_no l D cy sa q rest H.size r1.2  r8 h8r) (cwV 0 hts (gB_V wB299 wB300 wB301 wB2 wB302) rfl rfl rfl (by decide +kernel) ⟨Nat.le_of_ble_eq_true rfl, Nat.le_of_ble_eq_true rfl⟩) ⟨kP.blind, k_recv hE hP (ci := 5) (q0 := 0) rfl rfl, k_pre hP hD hS hE hA⟩ rfl rfl hl.1 rfl (lv_room (Nat.le_of_ble_eq_true rfl)) dX5_warm_8 ⟨Nat.zero_le _, Nat.zero_le _⟩) hD hS hA (fun H locs hP hD hS => ?_)
    obtain rfl := o_ret hf
    exact k_iret hx hb hr hP hD hS (Nat.zero_le _) (Nat.zero_le _) hlocks dX5_warm_11
