theorem k_wP {D : va_G} {cl : List vw_C} {w1 w2 : va_W} {H : Heap} (h : w1 = w2) (hP : va_P D cl w1 H) : va_P D cl w2 H := h ▸ hP
theorem k_wD {A : Nat → Prop} {w1 w2 : va_W} (h : w1 = w2) (hD : va_D A w1) : va_D A w2 := h ▸ hD
noncomputable def mJ0_isLatin1_aae02 (w0 : Nat) : Option (Int32) :=
  some 1
abbrev rmJ0_isLatin1_aae02 : Room := { frames := 0, cells := 0, slots := 0, locals := 0 }
set_option maxRecDepth 100000 in
set_option maxHeartbeats 4000000 in
theorem zJ0_isLatin1_aae02 (l : Launch) (D : va_G) (cy : Nat → ClassId) (sa : Nat → Nat) (ws : va_W) (sz : Nat) (w0 : Nat) (res : Int32) (hw : w0 < 4) (hf : mJ0_isLatin1_aae02 w0 = some res) : kMi l yJ0_isLatin1_aae02 (wsK yJ0_isLatin1_aae02 cJ0_isLatin1_aae02 1 (some .boolean)) rmJ0_isLatin1_aae02 D cy sa (ws) sz [.ref (sa w0)] res (ws) 0 0 := by
  refine kM_of (Qc := fun A => kQi D A res (ws)) (cc := cJ0_isLatin1_aae02) (maxL := 1) (ret := (some .boolean)) (by decide) (Nat.le_of_ble_eq_true rfl) ?_
  intro p e s m below meth c A hx hb hml hr hts hown hlocks hin hA hP hD hS hE hsz ls hl
  have hown : s.vm.findClass RJ0 = some m.cls := hown
  obtain ⟨H, hH0⟩ : ∃ H, H = s.heap := ⟨_, rfl⟩
  obtain ⟨locs, hlocs0⟩ : ∃ locs : List Loc, locs = [] := ⟨_, rfl⟩
  have hP : va_P D vwCl (ws) H := by rw [hH0]; exact hP
  have hS : va_S A s.heap H locs := by rw [hH0, hlocs0]; exact hS
  have hl : lv_has ls 1 [(0, .ref (sa w0))] := hl
  suffices hgoal : W p l e rmJ0_isLatin1_aae02 s m ([.ref (sa w0)] : List Value).toArray below meth c H locs 0 0 (MQ below (kQi D A res (ws)) ([.ref (sa w0)] : List Value).toArray s 0 0 A) (F0 m 0 ls []) by rw [hH0, hlocs0] at hgoal; exact hgoal
  clear hH0 hlocs0
  unfold mJ0_isLatin1_aae02 at hf
  refine va_gets hx hb hE.2.2.2.1 hS hown (hts _ wB188) (fun _ h9 => h9) dJ0_isLatin1_aae02_0 ?_
  refine lv_if_eq (tgt := 17) hx hb dJ0_isLatin1_aae02_3 (by decide) (fun c3 => absurd c3 (by decide)) (fun c3 => ?_)
  refine lv_aload_n hx hb dJ0_isLatin1_aae02_6 rfl (lv_at hl 0 rfl) ?_
  refine vk_getf hx hb (hE.2.2.1.1 _ hw).2.1 hS hown (hts _ wB189) (fun _ h9 => h9) dJ0_isLatin1_aae02_7 ?_
  refine lv_if_ne (tgt := 17) hx hb dJ0_isLatin1_aae02_10 (by decide) (fun c10 => absurd c10 (by decide)) (fun c10 => ?_)
  refine lv_iconst (v := 1) hx hb dJ0_isLatin1_aae02_13 (by decide) ?_
  refine lv_goto (tgt := 18) hx hb dJ0_isLatin1_aae02_14 (by decide) ?_
  obtain rfl := o_ret hf
  exact k_zret (v := 1) hx hb hr hP hD hS rfl (Nat.zero_le _) (Nat.zero_le _) hlocks dJ0_isLatin1_aae02_18
noncomputable def mJ3_checkIndex_8e157 (a0 : Int32) (a1 : Int32) : Option (Int32) :=
  if a0 < 0 then
  (none)
  else
  (if a0 < a1 then
  (some a0)
  else
  (none))
abbrev rmJ3_checkIndex_8e157 : Room := { frames := 0, cells := 0, slots := 0, locals := 0 }
set_option maxRecDepth 100000 in
set_option maxHeartbeats 4000000 in
theorem zJ3_checkIndex_8e157 (l : Launch) (D : va_G) (cy : Nat → ClassId) (sa : Nat → Nat) (ws : va_W) (sz : Nat) (a0 : Int32) (a1 : Int32) (t2 : Nat) (res : Int32) (hf : mJ3_checkIndex_8e157 a0 a1 = some res) : kMi l yJ3_checkIndex_8e157 (wsK yJ3_checkIndex_8e157 cJ3_checkIndex_8e157 3 (some .int)) rmJ3_checkIndex_8e157 D cy sa (ws) sz [.int a0, .int a1, .ref t2] res (ws) 0 0 := by
  refine kM_of (Qc := fun A => kQi D A res (ws)) (cc := cJ3_checkIndex_8e157) (maxL := 3) (ret := (some .int)) (by decide) (Nat.le_of_ble_eq_true rfl) ?_
  intro p e s m below meth c A hx hb hml hr hts hown hlocks hin hA hP hD hS hE hsz ls hl
  have hown : s.vm.findClass RJ3 = some m.cls := hown
  obtain ⟨H, hH0⟩ : ∃ H, H = s.heap := ⟨_, rfl⟩
  obtain ⟨locs, hlocs0⟩ : ∃ locs : List Loc, locs = [] := ⟨_, rfl⟩
  have hP : va_P D vwCl (ws) H := by rw [hH0]; exact hP
  have hS : va_S A s.heap H locs := by rw [hH0, hlocs0]; exact hS
  have hl : lv_has ls 3 [(0, .int a0), (1, .int a1), (2, .ref t2)] := hl
  suffices hgoal : W p l e rmJ3_checkIndex_8e157 s m ([.int a0, .int a1, .ref t2] : List Value).toArray below meth c H locs 0 0 (MQ below (kQi D A res (ws)) ([.int a0, .int a1, .ref t2] : List Value).toArray s 0 0 A) (F0 m 0 ls []) by rw [hH0, hlocs0] at hgoal; exact hgoal
  clear hH0 hlocs0
  unfold mJ3_checkIndex_8e157 at hf
  refine lv_iload_n hx hb dJ3_checkIndex_8e157_0 rfl (lv_at hl 0 rfl) ?_
  refine lv_if_lt (tgt := 9) hx hb dJ3_checkIndex_8e157_1 (by decide) (fun c1 => ?_) (fun c1 => ?_)
  · have hf := o_ip c1 hf
    cases hf
  · have hf := o_in c1 hf
    refine lv_iload_n hx hb dJ3_checkIndex_8e157_4 rfl (lv_at hl 0 rfl) ?_
    refine lv_iload_n hx hb dJ3_checkIndex_8e157_5 rfl (lv_at hl 1 rfl) ?_
    refine lv_icmp_lt (tgt := 16) hx hb dJ3_checkIndex_8e157_6 (by decide) (fun c6 => ?_) (fun c6 => ?_)
    · have hf := o_ip c6 hf
      refine lv_iload_n hx hb dJ3_checkIndex_8e157_16 rfl (lv_at hl 0 rfl) ?_
      obtain rfl := o_ret hf
      exact k_iret hx hb hr hP hD hS (Nat.zero_le _) (Nat.zero_le _) hlocks dJ3_checkIndex_8e157_17
    · have hf := o_in c6 hf
      cases hf

abbrev rmJ3_checkIndex_8e157_z : Room := { frames := 0, cells := 0, slots := 0, locals := 0 }
set_option maxRecDepth 100000 in
set_option maxHeartbeats 4000000 in
theorem zJ3_checkIndex_8e157_z (l : Launch) (D : va_G) (cy : Nat → ClassId) (sa : Nat → Nat) (ws : va_W) (sz : Nat) (a0 : Int32) (a1 : Int32) (res : Int32) (hf : mJ3_checkIndex_8e157 a0 a1 = some res) : kMi l yJ3_checkIndex_8e157 (wsK yJ3_checkIndex_8e157 cJ3_checkIndex_8e157 3 (some .int)) rmJ3_checkIndex_8e157_z D cy sa (ws) sz [.int a0, .int a1, .null] res (ws) 0 0 := by
  refine kM_of (Qc := fun A => kQi D A res (ws)) (cc := cJ3_checkIndex_8e157) (maxL := 3) (ret := (some .int)) (by decide) (Nat.le_of_ble_eq_true rfl) ?_
  intro p e s m below meth c A hx hb hml hr hts hown hlocks hin hA hP hD hS hE hsz ls hl
  have hown : s.vm.findClass RJ3 = some m.cls := hown
  obtain ⟨H, hH0⟩ : ∃ H, H = s.heap := ⟨_, rfl⟩
  obtain ⟨locs, hlocs0⟩ : ∃ locs : List Loc, locs = [] := ⟨_, rfl⟩
  have hP : va_P D vwCl (ws) H := by rw [hH0]; exact hP
  have hS : va_S A s.heap H locs := by rw [hH0, hlocs0]; exact hS
  have hl : lv_has ls 3 [(0, .int a0), (1, .int a1), (2, .null)] := hl
  suffices hgoal : W p l e rmJ3_checkIndex_8e157_z s m ([.int a0, .int a1, .null] : List Value).toArray below meth c H locs 0 0 (MQ below (kQi D A res (ws)) ([.int a0, .int a1, .null] : List Value).toArray s 0 0 A) (F0 m 0 ls []) by rw [hH0, hlocs0] at hgoal; exact hgoal
  clear hH0 hlocs0
  unfold mJ3_checkIndex_8e157 at hf
  refine lv_iload_n hx hb dJ3_checkIndex_8e157_0 rfl (lv_at hl 0 rfl) ?_
  refine lv_if_lt (tgt := 9) hx hb dJ3_checkIndex_8e157_1 (by decide) (fun c1 => ?_) (fun c1 => ?_)
  · have hf := o_ip c1 hf
    cases hf
  · have hf := o_in c1 hf
    refine lv_iload_n hx hb dJ3_checkIndex_8e157_4 rfl (lv_at hl 0 rfl) ?_
    refine lv_iload_n hx hb dJ3_checkIndex_8e157_5 rfl (lv_at hl 1 rfl) ?_
    refine lv_icmp_lt (tgt := 16) hx hb dJ3_checkIndex_8e157_6 (by decide) (fun c6 => ?_) (fun c6 => ?_)
    · have hf := o_ip c6 hf
      refine lv_iload_n hx hb dJ3_checkIndex_8e157_16 rfl (lv_at hl 0 rfl) ?_
      obtain rfl := o_ret hf
      exact k_iret hx hb hr hP hD hS (Nat.zero_le _) (Nat.zero_le _) hlocks dJ3_checkIndex_8e157_17
    · have hf := o_in c6 hf
      cases hf
noncomputable def mJ0_checkIndex_df160 (a0 : Int32) (a1 : Int32) : Option (Unit) :=
  (mJ3_checkIndex_8e157 a0 a1).bind fun r5 =>
  some ()
abbrev rmJ0_checkIndex_df160 : Room := { frames := 1, cells := 0, slots := 0, locals := 22 }
set_option maxRecDepth 100000 in
set_option maxHeartbeats 4000000 in
theorem zJ0_checkIndex_df160 (l : Launch) (D : va_G) (cy : Nat → ClassId) (sa : Nat → Nat) (ws : va_W) (sz : Nat) (a0 : Int32) (a1 : Int32) (res : Unit) (hf : mJ0_checkIndex_df160 a0 a1 = some res) : kMv l yJ0_checkIndex_df160 (wsK yJ0_checkIndex_df160 cJ0_checkIndex_df160 2 none) rmJ0_checkIndex_df160 D cy sa (ws) sz [.int a0, .int a1] (ws) 0 0 := by
  refine kM_of (Qc := fun A => kQv D A (ws)) (cc := cJ0_checkIndex_df160) (maxL := 2) (ret := none) (by decide) (Nat.le_of_ble_eq_true rfl) ?_
  intro p e s m below meth c A hx hb hml hr hts hown hlocks hin hA hP hD hS hE hsz ls hl
  have hown : s.vm.findClass RJ0 = some m.cls := hown
  obtain ⟨H, hH0⟩ : ∃ H, H = s.heap := ⟨_, rfl⟩
  obtain ⟨locs, hlocs0⟩ : ∃ locs : List Loc, locs = [] := ⟨_, rfl⟩
  have hP : va_P D vwCl (ws) H := by rw [hH0]; exact hP
  have hS : va_S A s.heap H locs := by rw [hH0, hlocs0]; exact hS
  have hl : lv_has ls 2 [(0, .int a0), (1, .int a1)] := hl
  suffices hgoal : W p l e rmJ0_checkIndex_df160 s m ([.int a0, .int a1] : List Value).toArray below meth c H locs 0 0 (MQ below (kQv D A (ws)) ([.int a0, .int a1] : List Value).toArray s 0 0 A) (F0 m 0 ls []) by rw [hH0, hlocs0] at hgoal; exact hgoal
  clear hH0 hlocs0
  unfold mJ0_checkIndex_df160 at hf
  refine lv_iload_n hx hb dJ0_checkIndex_df160_0 rfl (lv_at hl 0 rfl) ?_
  refine lv_iload_n hx hb dJ0_checkIndex_df160_1 rfl (lv_at hl 1 rfl) ?_
  rcases hE.2.2.2.2.2.2.2.2.1 with hz | ⟨tz, hz⟩
  · refine va_gets hx hb hz hS hown (hts _ wB205) (fun _ h9 => h9) dJ0_checkIndex_df160_2 ?_
    obtain ⟨r5, h5r, hf⟩ := o_bs hf
    refine k_goi (va_runS (As := [.int a0, .int a1, .null]) (rest := []) ⟨hx, hb, hml, hown, hts⟩ (zJ3_checkIndex_8e157_z l D cy sa (ws) H.size a0 a1  r5  h5r) (va_cwS 3 hts (gB_S wB206 wB207 wB208 wB209) rfl rfl rfl (by decide +kernel) ⟨Nat.le_of_ble_eq_true rfl, Nat.le_of_ble_eq_true rfl⟩) ⟨kP.blind, k_pre hP hD hS hE hA⟩ rfl rfl hl.1 rfl (lv_room (Nat.le_of_ble_eq_true rfl)) dJ0_checkIndex_df160_5 ⟨Nat.zero_le _, Nat.zero_le _⟩) hD hS hA (fun H locs hP hD hS => ?_)
    refine lv_pop hx hb dJ0_checkIndex_df160_8 rfl ?_
    obtain rfl := o_ret hf
    exact k_vret hx hb hr hP hD hS (Nat.zero_le _) (Nat.zero_le _) hlocks dJ0_checkIndex_df160_9
  · refine va_gets hx hb hz hS hown (hts _ wB205) (fun _ h9 => h9) dJ0_checkIndex_df160_2 ?_
    obtain ⟨r5, h5r, hf⟩ := o_bs hf
    refine k_goi (va_runS (As := [.int a0, .int a1, .ref tz]) (rest := []) ⟨hx, hb, hml, hown, hts⟩ (zJ3_checkIndex_8e157 l D cy sa (ws) H.size a0 a1 tz r5  h5r) (va_cwS 3 hts (gB_S wB206 wB207 wB208 wB209) rfl rfl rfl (by decide +kernel) ⟨Nat.le_of_ble_eq_true rfl, Nat.le_of_ble_eq_true rfl⟩) ⟨kP.blind, k_pre hP hD hS hE hA⟩ rfl rfl hl.1 rfl (lv_room (Nat.le_of_ble_eq_true rfl)) dJ0_checkIndex_df160_5 ⟨Nat.zero_le _, Nat.zero_le _⟩) hD hS hA (fun H locs hP hD hS => ?_)
    refine lv_pop hx hb dJ0_checkIndex_df160_8 rfl ?_
    obtain rfl := o_ret hf
    exact k_vret hx hb hr hP hD hS (Nat.zero_le _) (Nat.zero_le _) hlocks dJ0_checkIndex_df160_9
noncomputable def mJ1_charAt_3b067 (w0 : Nat) (a1 : Int32) : Option (Int32) :=
  (mJ0_checkIndex_df160 a1 (kSl w0)).bind fun r3 =>
  gd (inb a1 (kStrLen.getD w0 0)) (gd (0 ≤ ((((kSc w0 a1) &&& 255).toUInt32 % 65536).toInt32) ∧ ((((kSc w0 a1) &&& 255).toUInt32 % 65536).toInt32) < 256) (some ((((kSc w0 a1) &&& 255).toUInt32 % 65536).toInt32)))
abbrev rmJ1_charAt_3b067 : Room := { frames := 2, cells := 0, slots := 0, locals := 43 }
set_option maxRecDepth 100000 in
set_option maxHeartbeats 4000000 in
theorem zJ1_charAt_3b067 (l : Launch) (D : va_G) (cy : Nat → ClassId) (sa : Nat → Nat) (ws : va_W) (sz : Nat) (w0 : Nat) (a1 : Int32) (res : Int32) (hw : w0 < 4) (hf : mJ1_charAt_3b067 w0 a1 = some res) : kMi l yJ1_charAt_3b067 (wsK yJ1_charAt_3b067 cJ1_charAt_3b067 2 (some .char)) rmJ1_charAt_3b067 D cy sa (ws) sz [.ref (sa (4 + w0)), .int a1] res (ws) 0 0 := by
  refine kM_of (Qc := fun A => kQi D A res (ws)) (cc := cJ1_charAt_3b067) (maxL := 2) (ret := (some .char)) (by decide) (Nat.le_of_ble_eq_true rfl) ?_
  intro p e s m below meth c A hx hb hml hr hts hown hlocks hin hA hP hD hS hE hsz ls hl
  have hown : s.vm.findClass RJ1 = some m.cls := hown
  obtain ⟨H, hH0⟩ : ∃ H, H = s.heap := ⟨_, rfl⟩
  obtain ⟨locs, hlocs0⟩ : ∃ locs : List Loc, locs = [] := ⟨_, rfl⟩
  have hP : va_P D vwCl (ws) H := by rw [hH0]; exact hP
  have hS : va_S A s.heap H locs := by rw [hH0, hlocs0]; exact hS
  have hl : lv_has ls 2 [(0, .ref (sa (4 + w0))), (1, .int a1)] := hl
  suffices hgoal : W p l e rmJ1_charAt_3b067 s m ([.ref (sa (4 + w0)), .int a1] : List Value).toArray below meth c H locs 0 0 (MQ below (kQi D A res (ws)) ([.ref (sa (4 + w0)), .int a1] : List Value).toArray s 0 0 A) (F0 m 0 ls []) by rw [hH0, hlocs0] at hgoal; exact hgoal
  clear hH0 hlocs0
  unfold mJ1_charAt_3b067 at hf
  refine lv_iload_n hx hb dJ1_charAt_3b067_0 rfl (lv_at hl 1 rfl) ?_
  refine lv_aload_n hx hb dJ1_charAt_3b067_1 rfl (lv_at hl 0 rfl) ?_
  refine va_tlen (v := kSl w0) hx hb (hE.2.2.1.1 _ hw).2.2.2 hS rfl dJ1_charAt_3b067_2 ?_
  obtain ⟨r3, h3r, hf⟩ := o_bs hf
  refine k_gov (va_runS (As := [.int a1, .int (kSl w0)]) (rest := []) ⟨hx, hb, hml, hown, hts⟩ (zJ0_checkIndex_df160 l D cy sa (ws) H.size a1 (kSl w0)  r3  h3r) (va_cwS 2 hts (gB_S wB202 wB203 wB181 wB204) rfl rfl rfl (by decide +kernel) ⟨Nat.le_of_ble_eq_true rfl, Nat.le_of_ble_eq_true rfl⟩) ⟨kP.blind, k_pre hP hD hS hE hA⟩ rfl rfl hl.1 rfl (lv_room (Nat.le_of_ble_eq_true rfl)) dJ1_charAt_3b067_3 ⟨Nat.zero_le _, Nat.zero_le _⟩) hD hS hA (fun H locs hP hD hS => ?_)
  refine lv_aload_n hx hb dJ1_charAt_3b067_6 rfl (lv_at hl 0 rfl) ?_
  refine lv_iload_n hx hb dJ1_charAt_3b067_7 rfl (lv_at hl 1 rfl) ?_
  obtain ⟨hg8, hf⟩ := gd_s hf
  refine va_tb (v := .int (kSc w0 a1)) hx hb (hE.2.2.1.1 _ hw).2.2.2 hS hg8 rfl dJ1_charAt_3b067_8 ?_
  refine lv_sipush (v := 255) hx hb dJ1_charAt_3b067_9 (by decide) ?_
  refine lv_iand hx hb dJ1_charAt_3b067_12 ?_
  refine lv_i2c (v := ((((kSc w0 a1) &&& 255).toUInt32 % 65536).toInt32)) hx hb dJ1_charAt_3b067_13 rfl ?_
  obtain ⟨hgz, hf⟩ := gd_s hf
  obtain rfl := o_ret hf
  exact k_zret hx hb hr hP hD hS (k_narC hgz) (Nat.zero_le _) (Nat.zero_le _) hlocks dJ1_charAt_3b067_14
noncomputable def mJ0_charAt_5068e (w0 : Nat) (a1 : Int32) : Option (Int32) :=
  (mJ0_isLatin1_aae02 w0).bind fun r1 =>
  if r1 = 0 then
  (none)
  else
  ((mJ1_charAt_3b067 w0 a1).bind fun r12 =>
  gd (0 ≤ r12 ∧ r12 < 256) (some r12))
abbrev rmJ0_charAt_5068e : Room := { frames := 3, cells := 0, slots := 0, locals := 64 }
set_option maxRecDepth 100000 in
set_option maxHeartbeats 4000000 in
theorem zJ0_charAt_5068e (l : Launch) (D : va_G) (cy : Nat → ClassId) (sa : Nat → Nat) (ws : va_W) (sz : Nat) (w0 : Nat) (a1 : Int32) (res : Int32) (hw : w0 < 4) (hf : mJ0_charAt_5068e w0 a1 = some res) : kMi l yJ0_charAt_5068e (wsK yJ0_charAt_5068e cJ0_charAt_5068e 2 (some .char)) rmJ0_charAt_5068e D cy sa (ws) sz [.ref (sa w0), .int a1] res (ws) 0 0 := by
  refine kM_of (Qc := fun A => kQi D A res (ws)) (cc := cJ0_charAt_5068e) (maxL := 2) (ret := (some .char)) (by decide) (Nat.le_of_ble_eq_true rfl) ?_
  intro p e s m below meth c A hx hb hml hr hts hown hlocks hin hA hP hD hS hE hsz ls hl
  have hown : s.vm.findClass RJ0 = some m.cls := hown
  obtain ⟨H, hH0⟩ : ∃ H, H = s.heap := ⟨_, rfl⟩
  obtain ⟨locs, hlocs0⟩ : ∃ locs : List Loc, locs = [] := ⟨_, rfl⟩
  have hP : va_P D vwCl (ws) H := by rw [hH0]; exact hP
  have hS : va_S A s.heap H locs := by rw [hH0, hlocs0]; exact hS
  have hl : lv_has ls 2 [(0, .ref (sa w0)), (1, .int a1)] := hl
  suffices hgoal : W p l e rmJ0_charAt_5068e s m ([.ref (sa w0), .int a1] : List Value).toArray below meth c H locs 0 0 (MQ below (kQi D A res (ws)) ([.ref (sa w0), .int a1] : List Value).toArray s 0 0 A) (F0 m 0 ls []) by rw [hH0, hlocs0] at hgoal; exact hgoal
  clear hH0 hlocs0
  unfold mJ0_charAt_5068e at hf
  refine lv_aload_n hx hb dJ0_charAt_5068e_0 rfl (lv_at hl 0 rfl) ?_
  obtain ⟨r1, h1r, hf⟩ := o_bs hf
  refine k_goi (va_runV (As := []) (rest := []) ⟨hx, hb, hml, hown, hts⟩ (zJ0_isLatin1_aae02 l D cy sa (ws) H.size w0  r1 hw h1r) (cwV 0 hts (gB_V wB194 wB195 wB196 wB181 wB197) rfl rfl rfl (by decide +kernel) ⟨Nat.le_of_ble_eq_true rfl, Nat.le_of_ble_eq_true rfl⟩) ⟨kP.blind, vk_recv hE.2.2.1 hw hS, k_pre hP hD hS hE hA⟩ rfl rfl hl.1 rfl (lv_room (Nat.le_of_ble_eq_true rfl)) dJ0_charAt_5068e_1 ⟨Nat.zero_le _, Nat.zero_le _⟩) hD hS hA (fun H locs hP hD hS => ?_)
  refine lv_if_eq (tgt := 16) hx hb dJ0_charAt_5068e_4 (by decide) (fun c4 => ?_) (fun c4 => ?_)
  · have hf := o_ip c4 hf
    cases hf
  · have hf := o_in c4 hf
    refine lv_aload_n hx hb dJ0_charAt_5068e_7 rfl (lv_at hl 0 rfl) ?_
    refine vk_getf hx hb (hE.2.2.1.1 _ hw).2.2.1 hS hown (hts _ wB183) (fun _ h9 => h9) dJ0_charAt_5068e_8 ?_
    refine lv_iload_n hx hb dJ0_charAt_5068e_11 rfl (lv_at hl 1 rfl) ?_
    obtain ⟨r12, h12r, hf⟩ := o_bs hf
    refine k_goi (va_runS (As := [.ref (sa (4 + w0)), .int a1]) (rest := []) ⟨hx, hb, hml, hown, hts⟩ (zJ1_charAt_3b067 l D cy sa (ws) H.size w0 a1  r12 hw h12r) (va_cwS 2 hts (gB_S wB198 wB199 wB200 wB201) rfl rfl rfl (by decide +kernel) ⟨Nat.le_of_ble_eq_true rfl, Nat.le_of_ble_eq_true rfl⟩) ⟨kP.blind, k_pre hP hD hS hE hA⟩ rfl rfl hl.1 rfl (lv_room (Nat.le_of_ble_eq_true rfl)) dJ0_charAt_5068e_12 ⟨Nat.zero_le _, Nat.zero_le _⟩) hD hS hA (fun H locs hP hD hS => ?_)
    obtain ⟨hgz, hf⟩ := gd_s hf
    obtain rfl := o_ret hf
    exact k_zret hx hb hr hP hD hS (k_narC hgz) (Nat.zero_le _) (Nat.zero_le _) hlocks dJ0_charAt_5068e_15
noncomputable def mJ0_coder_7d493 (w0 : Nat) : Option (Int32) :=
  some 0
abbrev rmJ0_coder_7d493 : Room := { frames := 0, cells := 0, slots := 0, locals := 0 }
set_option maxRecDepth 100000 in
set_option maxHeartbeats 4000000 in
theorem zJ0_coder_7d493 (l : Launch) (D : va_G) (cy : Nat → ClassId) (sa : Nat → Nat) (ws : va_W) (sz : Nat) (w0 : Nat) (res : Int32) (hw : w0 < 4) (hf : mJ0_coder_7d493 w0 = some res) : kMi l yJ0_coder_7d493 (wsK yJ0_coder_7d493 cJ0_coder_7d493 1 (some .byte)) rmJ0_coder_7d493 D cy sa (ws) sz [.ref (sa w0)] res (ws) 0 0 := by
  refine kM_of (Qc := fun A => kQi D A res (ws)) (cc := cJ0_coder_7d493) (maxL := 1) (ret := (some .byte)) (by decide) (Nat.le_of_ble_eq_true rfl) ?_
  intro p e s m below meth c A hx hb hml hr hts hown hlocks hin hA hP hD hS hE hsz ls hl
  have hown : s.vm.findClass RJ0 = some m.cls := hown
  obtain ⟨H, hH0⟩ : ∃ H, H = s.heap := ⟨_, rfl⟩
  obtain ⟨locs, hlocs0⟩ : ∃ locs : List Loc, locs = [] := ⟨_, rfl⟩
  have hP : va_P D vwCl (ws) H := by rw [hH0]; exact hP
  have hS : va_S A s.heap H locs := by rw [hH0, hlocs0]; exact hS
  have hl : lv_has ls 1 [(0, .ref (sa w0))] := hl
  suffices hgoal : W p l e rmJ0_coder_7d493 s m ([.ref (sa w0)] : List Value).toArray below meth c H locs 0 0 (MQ below (kQi D A res (ws)) ([.ref (sa w0)] : List Value).toArray s 0 0 A) (F0 m 0 ls []) by rw [hH0, hlocs0] at hgoal; exact hgoal
  clear hH0 hlocs0
  unfold mJ0_coder_7d493 at hf
  refine va_gets hx hb hE.2.2.2.1 hS hown (hts _ wB188) (fun _ h9 => h9) dJ0_coder_7d493_0 ?_
  refine lv_if_eq (tgt := 13) hx hb dJ0_coder_7d493_3 (by decide) (fun c3 => absurd c3 (by decide)) (fun c3 => ?_)
  refine lv_aload_n hx hb dJ0_coder_7d493_6 rfl (lv_at hl 0 rfl) ?_
  refine vk_getf hx hb (hE.2.2.1.1 _ hw).2.1 hS hown (hts _ wB189) (fun _ h9 => h9) dJ0_coder_7d493_7 ?_
  refine lv_goto (tgt := 14) hx hb dJ0_coder_7d493_10 (by decide) ?_
  obtain rfl := o_ret hf
  exact k_zret hx hb hr hP hD hS rfl (Nat.zero_le _) (Nat.zero_le _) hlocks dJ0_coder_7d493_14
noncomputable def mJ0_length_8abf5 (w0 : Nat) : Option (Int32) :=
  (mJ0_coder_7d493 w0).bind fun r6 =>
  some ((kSl w0) >>> (r6 &&& 31))
abbrev rmJ0_length_8abf5 : Room := { frames := 1, cells := 0, slots := 0, locals := 20 }
set_option maxRecDepth 100000 in
set_option maxHeartbeats 4000000 in
theorem zJ0_length_8abf5 (l : Launch) (D : va_G) (cy : Nat → ClassId) (sa : Nat → Nat) (ws : va_W) (sz : Nat) (w0 : Nat) (res : Int32) (hw : w0 < 4) (hf : mJ0_length_8abf5 w0 = some res) : kMi l yJ0_length_8abf5 (wsK yJ0_length_8abf5 cJ0_length_8abf5 1 (some .int)) rmJ0_length_8abf5 D cy sa (ws) sz [.ref (sa w0)] res (ws) 0 0 := by
  refine kM_of (Qc := fun A => kQi D A res (ws)) (cc := cJ0_length_8abf5) (maxL := 1) (ret := (some .int)) (by decide) (Nat.le_of_ble_eq_true rfl) ?_
  intro p e s m below meth c A hx hb hml hr hts hown hlocks hin hA hP hD hS hE hsz ls hl
  have hown : s.vm.findClass RJ0 = some m.cls := hown
  obtain ⟨H, hH0⟩ : ∃ H, H = s.heap := ⟨_, rfl⟩
  obtain ⟨locs, hlocs0⟩ : ∃ locs : List Loc, locs = [] := ⟨_, rfl⟩
  have hP : va_P D vwCl (ws) H := by rw [hH0]; exact hP
  have hS : va_S A s.heap H locs := by rw [hH0, hlocs0]; exact hS
  have hl : lv_has ls 1 [(0, .ref (sa w0))] := hl
  suffices hgoal : W p l e rmJ0_length_8abf5 s m ([.ref (sa w0)] : List Value).toArray below meth c H locs 0 0 (MQ below (kQi D A res (ws)) ([.ref (sa w0)] : List Value).toArray s 0 0 A) (F0 m 0 ls []) by rw [hH0, hlocs0] at hgoal; exact hgoal
  clear hH0 hlocs0
  unfold mJ0_length_8abf5 at hf
  refine lv_aload_n hx hb dJ0_length_8abf5_0 rfl (lv_at hl 0 rfl) ?_
  refine vk_getf hx hb (hE.2.2.1.1 _ hw).2.2.1 hS hown (hts _ wB183) (fun _ h9 => h9) dJ0_length_8abf5_1 ?_
  refine va_tlen (v := kSl w0) hx hb (hE.2.2.1.1 _ hw).2.2.2 hS rfl dJ0_length_8abf5_4 ?_
  refine lv_aload_n hx hb dJ0_length_8abf5_5 rfl (lv_at hl 0 rfl) ?_
  obtain ⟨r6, h6r, hf⟩ := o_bs hf
  refine k_goi (va_runV (As := []) (rest := [.int (kSl w0)]) ⟨hx, hb, hml, hown, hts⟩ (zJ0_coder_7d493 l D cy sa (ws) H.size w0  r6 hw h6r) (cwV 0 hts (gB_V wB184 wB185 wB186 wB181 wB187) rfl rfl rfl (by decide +kernel) ⟨Nat.le_of_ble_eq_true rfl, Nat.le_of_ble_eq_true rfl⟩) ⟨kP.blind, vk_recv hE.2.2.1 hw hS, k_pre hP hD hS hE hA⟩ rfl rfl hl.1 rfl (lv_room (Nat.le_of_ble_eq_true rfl)) dJ0_length_8abf5_6 ⟨Nat.zero_le _, Nat.zero_le _⟩) hD hS hA (fun H locs hP hD hS => ?_)
  refine lv_ishr hx hb dJ0_length_8abf5_9 ?_
  obtain rfl := o_ret hf
  exact k_iret hx hb hr hP hD hS (Nat.zero_le _) (Nat.zero_le _) hlocks dJ0_length_8abf5_10
noncomputable def mJ7_fill_d0a16_s6 (n0 : Nat) (c1 : Int64) (c4 : Int32) (s6 : Int32 × ((Nat → Int64))) : Option ((((Nat → Int64))) ⊕ (Int32 × ((Nat → Int64)))) :=
  if c4 ≤ s6.1 then
  (some (.inl s6.2))
  else
  (gd (inb s6.1 n0) (some (.inr ((s6.1 + 1), (vp_updL s6.2 (s6.1.toNatClampNeg) c1)))))
noncomputable def mJ7_fill_d0a16 (n0 : Nat) (f0 : Nat → Int64) (a1 : Int64) : Option (((Nat → Int64))) :=
  (lpF (mJ7_fill_d0a16_s6 n0 a1 (Int32.ofNat n0)) (0, f0)).bind fun e6 =>
  some e6
abbrev rmJ7_fill_d0a16 : Room := { frames := 0, cells := 0, slots := 0, locals := 0 }
set_option maxRecDepth 100000 in
set_option maxHeartbeats 4000000 in
theorem zJ7_fill_d0a16 (l : Launch) (D : va_G) (cy : Nat → ClassId) (sa : Nat → Nat) (ws : va_W) (sz : Nat) (k0 d0 n0 : Nat) (f0 : Nat → Int64) (a1 : Int64) (res : ((Nat → Int64))) (ha0 : ws[k0]? = some (kIJ d0 (cy 1) n0 f0)) (hf : mJ7_fill_d0a16 n0 f0 a1 = some res) : kMv l yJ7_fill_d0a16 (wsK yJ7_fill_d0a16 cJ7_fill_d0a16 5 none) rmJ7_fill_d0a16 D cy sa (ws) sz [.ref d0, .long a1] ((ws.set k0 (kIJ d0 (cy 1) n0 res))) 0 0 := by
  refine kM_of (Qc := fun A => kQv D A ((ws.set k0 (kIJ d0 (cy 1) n0 res)))) (cc := cJ7_fill_d0a16) (maxL := 5) (ret := none) (by decide) (Nat.le_of_ble_eq_true rfl) ?_
  intro p e s m below meth c A hx hb hml hr hts hown hlocks hin hA hP hD hS hE hsz ls hl
  have hown : s.vm.findClass RJ7 = some m.cls := hown
  obtain ⟨H, hH0⟩ : ∃ H, H = s.heap := ⟨_, rfl⟩
  obtain ⟨locs, hlocs0⟩ : ∃ locs : List Loc, locs = [] := ⟨_, rfl⟩
  have hP : va_P D vwCl (ws) H := by rw [hH0]; exact hP
  have hS : va_S A s.heap H locs := by rw [hH0, hlocs0]; exact hS
  have hl : lv_has ls 5 [(0, .ref d0), (1, .long a1)] := hl
  suffices hgoal : W p l e rmJ7_fill_d0a16 s m ([.ref d0, .long a1] : List Value).toArray below meth c H locs 0 0 (MQ below (kQv D A ((ws.set k0 (kIJ d0 (cy 1) n0 res)))) ([.ref d0, .long a1] : List Value).toArray s 0 0 A) (F0 m 0 ls []) by rw [hH0, hlocs0] at hgoal; exact hgoal
  clear hH0 hlocs0
  unfold mJ7_fill_d0a16 at hf
  refine lv_iconst (v := 0) hx hb dJ7_fill_d0a16_0 (by decide) ?_
  refine lv_istore_n (lv' := [(3, .int 0), (0, .ref d0), (1, .long a1)]) hx hb dJ7_fill_d0a16_1 rfl hl (by decide) rfl (fun ls hl => ?_)
  refine lv_aload_n hx hb dJ7_fill_d0a16_2 rfl (lv_at hl 1 rfl) ?_
  refine va_alen (v := (Int32.ofNat n0)) hx hb hE.1 hP k0 1 ha0 rfl rfl dJ7_fill_d0a16_3 ?_
  refine lv_istore (lv' := [(4, .int (Int32.ofNat n0)), (3, .int 0), (0, .ref d0), (1, .long a1)]) hx hb dJ7_fill_d0a16_4 hl (by decide) rfl (fun ls hl => ?_)
  have hP : va_P D vwCl ((ws.set k0 (kIJ d0 (cy 1) n0 f0))) H := by rw [k_setself ha0]; exact hP
  have hD : va_D A ((ws.set k0 (kIJ d0 (cy 1) n0 f0))) := by rw [k_setself ha0]; exact hD
  have L6 : ∀ (n6v : Nat) (s6 : Int32 × ((Nat → Int64))) (e6 : ((Nat → Int64))), lpO (mJ7_fill_d0a16_s6 n0 a1 (Int32.ofNat n0)) n6v s6 = some e6 → ∀ (H : Heap) (locs : List Loc) (ls : Array Slot), va_P D vwCl ((ws.set k0 (kIJ d0 (cy 1) n0 s6.2))) H → va_D A ((ws.set k0 (kIJ d0 (cy 1) n0 s6.2))) → va_S A s.heap H locs → lv_has ls 5 [(0, .ref d0), (1, .long a1), (3, .int s6.1), (4, .int (Int32.ofNat n0))] → (∀ (H : Heap) (locs : List Loc) (ls : Array Slot), va_P D vwCl ((ws.set k0 (kIJ d0 (cy 1) n0 e6))) H → va_D A ((ws.set k0 (kIJ d0 (cy 1) n0 e6))) → va_S A s.heap H locs → lv_has ls 5 [] → W p l e rmJ7_fill_d0a16 s m ([.ref d0, .long a1] : List Value).toArray below meth c H locs 0 0 (MQ below (kQv D A ((ws.set k0 (kIJ d0 (cy 1) n0 res)))) ([.ref d0, .long a1] : List Value).toArray s 0 0 A) (F0 m 22 ls [])) → W p l e rmJ7_fill_d0a16 s m ([.ref d0, .long a1] : List Value).toArray below meth c H locs 0 0 (MQ below (kQv D A ((ws.set k0 (kIJ d0 (cy 1) n0 res)))) ([.ref d0, .long a1] : List Value).toArray s 0 0 A) (F0 m 6 ls []) := by
    intro n6v
    induction n6v with
    | zero => intro s6 e6 h; exact (lpO_z h).elim
    | succ n6v ih6 =>
      intro s6 e6 h6z H locs ls hP hD hS hl K6_0
      obtain ⟨x6, hf, h6z⟩ := lpO_s h6z
      unfold mJ7_fill_d0a16_s6 at hf
      refine lv_iload_n hx hb dJ7_fill_d0a16_6 rfl (lv_at hl 2 rfl) ?_
      refine lv_iload hx hb dJ7_fill_d0a16_7 (lv_at hl 3 rfl) ?_
      refine lv_icmp_ge (tgt := 22) hx hb dJ7_fill_d0a16_9 (by decide) (fun c9 => ?_) (fun c9 => ?_)
      · have hf := o_ip c9 hf
        obtain rfl := o_ret hf
        obtain rfl := lpK_l h6z
        exact K6_0 _ _ _ hP hD hS (lv_sub hl [] rfl)
      · have hf := o_in c9 hf
        refine lv_aload_n hx hb dJ7_fill_d0a16_12 rfl (lv_at hl 0 rfl) ?_
        refine lv_iload_n hx hb dJ7_fill_d0a16_13 rfl (lv_at hl 2 rfl) ?_
        refine lv_lload_n hx hb dJ7_fill_d0a16_14 rfl (lv_at hl 1 rfl) ?_
        obtain ⟨hg15, hf⟩ := gd_s hf
        refine va_last (f := s6.2) hx hb hE.1 hP hD hS k0 1 (k_gset ha0) rfl hg15 dJ7_fill_d0a16_15 (fun H locs hP hD hS => ?_)
        have hP : va_P D vwCl ((ws.set k0 (kIJ d0 (cy 1) n0 (vp_updL s6.2 (s6.1.toNatClampNeg) a1)))) H := by rw [List.set_set] at hP; exact hP
        have hD : va_D A ((ws.set k0 (kIJ d0 (cy 1) n0 (vp_updL s6.2 (s6.1.toNatClampNeg) a1)))) := by rw [List.set_set] at hD; exact hD
        refine lv_iinc (v := (s6.1 + 1)) (lv' := [(3, .int (s6.1 + 1)), (0, .ref d0), (1, .long a1), (4, .int (Int32.ofNat n0))]) hx hb dJ7_fill_d0a16_16 hl (k := 2) rfl (by rfl) (by decide) rfl (fun ls hl => ?_)
        refine lv_goto (tgt := 6) hx hb dJ7_fill_d0a16_19 (by decide) ?_
        obtain rfl := o_ret hf
        exact ih6 _ _ (lpK_r h6z) _ _ _ hP hD hS (lv_sub hl [1, 2, 0, 3] rfl) K6_0
  obtain ⟨e6, h6q, hf⟩ := o_bs hf
  obtain ⟨n6v, h6q⟩ := lpF_ex h6q
  refine L6 n6v _ e6 h6q _ _ _ hP hD hS (lv_sub hl [2, 3, 1, 0] rfl) ?_
  intro H locs ls hP hD hS hl
  obtain rfl := o_ret hf
  exact k_vret hx hb hr hP hD hS (Nat.zero_le _) (Nat.zero_le _) hlocks dJ7_fill_d0a16_22
noncomputable def mX5_at (n0 : Nat) (f0 : Nat → Int32) (a1 : Int32) : Option (Int32) :=
  if a1 < 0 then
  (some 0)
  else
  (if (Int32.ofNat n0) ≤ a1 then
  (some 0)
  else
  (gd (inb a1 n0) (some (f0 (a1.toNatClampNeg)))))
abbrev rmX5_at : Room := { frames := 0, cells := 0, slots := 0, locals := 0 }
set_option maxRecDepth 100000 in
set_option maxHeartbeats 4000000 in
theorem zX5_at (l : Launch) (D : va_G) (cy : Nat → ClassId) (sa : Nat → Nat) (ws : va_W) (sz : Nat) (k0 d0 n0 : Nat) (f0 : Nat → Int32) (a1 : Int32) (res : Int32) (ha0 : ws[k0]? = some (kII d0 (cy 0) n0 f0)) (hf : mX5_at n0 f0 a1 = some res) : kMi l yX5_at (wsK yX5_at cX5_at 2 (some .int)) rmX5_at D cy sa (ws) sz [.ref d0, .int a1] res (ws) 0 0 := by
  refine kM_of (Qc := fun A => kQi D A res (ws)) (cc := cX5_at) (maxL := 2) (ret := (some .int)) (by decide) (Nat.le_of_ble_eq_true rfl) ?_
  intro p e s m below meth c A hx hb hml hr hts hown hlocks hin hA hP hD hS hE hsz ls hl
  have hown : s.vm.findClass RX5 = some m.cls := hown
  obtain ⟨H, hH0⟩ : ∃ H, H = s.heap := ⟨_, rfl⟩
  obtain ⟨locs, hlocs0⟩ : ∃ locs : List Loc, locs = [] := ⟨_, rfl⟩
  have hP : va_P D vwCl (ws) H := by rw [hH0]; exact hP
  have hS : va_S A s.heap H locs := by rw [hH0, hlocs0]; exact hS
  have hl : lv_has ls 2 [(0, .ref d0), (1, .int a1)] := hl
  suffices hgoal : W p l e rmX5_at s m ([.ref d0, .int a1] : List Value).toArray below meth c H locs 0 0 (MQ below (kQi D A res (ws)) ([.ref d0, .int a1] : List Value).toArray s 0 0 A) (F0 m 0 ls []) by rw [hH0, hlocs0] at hgoal; exact hgoal
  clear hH0 hlocs0
  unfold mX5_at at hf
  refine lv_aload_n hx hb dX5_at_0 rfl (lv_at hl 0 rfl) ?_
  refine lv_ifnull hx hb dX5_at_1 ?_
  refine lv_iload_n hx hb dX5_at_4 rfl (lv_at hl 1 rfl) ?_
  refine lv_if_lt (tgt := 20) hx hb dX5_at_5 (by decide) (fun c5 => ?_) (fun c5 => ?_)
  · have hf := o_ip c5 hf
    refine lv_iconst (v := 0) hx hb dX5_at_20 (by decide) ?_
    obtain rfl := o_ret hf
    exact k_iret hx hb hr hP hD hS (Nat.zero_le _) (Nat.zero_le _) hlocks dX5_at_21
  · have hf := o_in c5 hf
    refine lv_iload_n hx hb dX5_at_8 rfl (lv_at hl 1 rfl) ?_
    refine lv_aload_n hx hb dX5_at_9 rfl (lv_at hl 0 rfl) ?_
    refine va_alen (v := (Int32.ofNat n0)) hx hb hE.1 hP k0 0 ha0 rfl rfl dX5_at_10 ?_
    refine lv_icmp_ge (tgt := 20) hx hb dX5_at_11 (by decide) (fun c11 => ?_) (fun c11 => ?_)
    · have hf := o_ip c11 hf
      refine lv_iconst (v := 0) hx hb dX5_at_20 (by decide) ?_
      obtain rfl := o_ret hf
      exact k_iret hx hb hr hP hD hS (Nat.zero_le _) (Nat.zero_le _) hlocks dX5_at_21
    · have hf := o_in c11 hf
      refine lv_aload_n hx hb dX5_at_14 rfl (lv_at hl 0 rfl) ?_
      refine lv_iload_n hx hb dX5_at_15 rfl (lv_at hl 1 rfl) ?_
      obtain ⟨hg16, hf⟩ := gd_s hf
      refine va_iald (f := f0) hx hb hE.1 hP k0 0 ha0 rfl hg16 dX5_at_16 ?_
      refine lv_goto (tgt := 21) hx hb dX5_at_17 (by decide) ?_
      obtain rfl := o_ret hf
      exact k_iret hx hb hr hP hD hS (Nat.zero_le _) (Nat.zero_le _) hlocks dX5_at_21
noncomputable def mX0_sortOf (a0 : Int32) : Option (Int32) :=
  if a0 = 32 then
  (some 0)
  else
  (if a0 < 97 then
  (if a0 < 48 then
  (some 3)
  else
  (if 57 < a0 then
  (some 3)
  else
  (some 2)))
  else
  (if 122 < a0 then
  (if a0 < 48 then
  (some 3)
  else
  (if 57 < a0 then
  (some 3)
  else
  (some 2)))
  else
  (some 1)))
abbrev rmX0_sortOf : Room := { frames := 0, cells := 0, slots := 0, locals := 0 }
set_option maxRecDepth 100000 in
set_option maxHeartbeats 4000000 in
theorem zX0_sortOf (l : Launch) (D : va_G) (cy : Nat → ClassId) (sa : Nat → Nat) (ws : va_W) (sz : Nat) (a0 : Int32) (res : Int32) (hf : mX0_sortOf a0 = some res) : kMi l yX0_sortOf (wsK yX0_sortOf cX0_sortOf 1 (some .int)) rmX0_sortOf D cy sa (ws) sz [.int a0] res (ws) 0 0 := by
  refine kM_of (Qc := fun A => kQi D A res (ws)) (cc := cX0_sortOf) (maxL := 1) (ret := (some .int)) (by decide) (Nat.le_of_ble_eq_true rfl) ?_
  intro p e s m below meth c A hx hb hml hr hts hown hlocks hin hA hP hD hS hE hsz ls hl
  have hown : s.vm.findClass RX0 = some m.cls := hown
  obtain ⟨H, hH0⟩ : ∃ H, H = s.heap := ⟨_, rfl⟩
  obtain ⟨locs, hlocs0⟩ : ∃ locs : List Loc, locs = [] := ⟨_, rfl⟩
  have hP : va_P D vwCl (ws) H := by rw [hH0]; exact hP
  have hS : va_S A s.heap H locs := by rw [hH0, hlocs0]; exact hS
  have hl : lv_has ls 1 [(0, .int a0)] := hl
  suffices hgoal : W p l e rmX0_sortOf s m ([.int a0] : List Value).toArray below meth c H locs 0 0 (MQ below (kQi D A res (ws)) ([.int a0] : List Value).toArray s 0 0 A) (F0 m 0 ls []) by rw [hH0, hlocs0] at hgoal; exact hgoal
  clear hH0 hlocs0
  unfold mX0_sortOf at hf
  refine lv_iload_n hx hb dX0_sortOf_0 rfl (lv_at hl 0 rfl) ?_
  refine lv_bipush (v := 32) hx hb dX0_sortOf_1 (by decide) ?_
  refine lv_icmp_ne (tgt := 8) hx hb dX0_sortOf_3 (by decide) (fun c3 => ?_) (fun c3 => ?_)
  · have hf := o_in c3 hf
    refine lv_iload_n hx hb dX0_sortOf_8 rfl (lv_at hl 0 rfl) ?_
    refine lv_bipush (v := 97) hx hb dX0_sortOf_9 (by decide) ?_
    refine lv_icmp_lt (tgt := 22) hx hb dX0_sortOf_11 (by decide) (fun c11 => ?_) (fun c11 => ?_)
    · have hf := o_ip c11 hf
      refine lv_iload_n hx hb dX0_sortOf_22 rfl (lv_at hl 0 rfl) ?_
      refine lv_bipush (v := 48) hx hb dX0_sortOf_23 (by decide) ?_
      refine lv_icmp_lt (tgt := 38) hx hb dX0_sortOf_25 (by decide) (fun c25 => ?_) (fun c25 => ?_)
      · have hf := o_ip c25 hf
        refine lv_iconst (v := 3) hx hb dX0_sortOf_38 (by decide) ?_
        obtain rfl := o_ret hf
        exact k_iret hx hb hr hP hD hS (Nat.zero_le _) (Nat.zero_le _) hlocks dX0_sortOf_39
      · have hf := o_in c25 hf
        refine lv_iload_n hx hb dX0_sortOf_28 rfl (lv_at hl 0 rfl) ?_
        refine lv_bipush (v := 57) hx hb dX0_sortOf_29 (by decide) ?_
        refine lv_icmp_gt (tgt := 38) hx hb dX0_sortOf_31 (by decide) (fun c31 => ?_) (fun c31 => ?_)
        · have hf := o_ip c31 hf
          refine lv_iconst (v := 3) hx hb dX0_sortOf_38 (by decide) ?_
          obtain rfl := o_ret hf
          exact k_iret hx hb hr hP hD hS (Nat.zero_le _) (Nat.zero_le _) hlocks dX0_sortOf_39
        · have hf := o_in c31 hf
          refine lv_iconst (v := 2) hx hb dX0_sortOf_34 (by decide) ?_
          refine lv_goto (tgt := 39) hx hb dX0_sortOf_35 (by decide) ?_
          obtain rfl := o_ret hf
          exact k_iret hx hb hr hP hD hS (Nat.zero_le _) (Nat.zero_le _) hlocks dX0_sortOf_39
    · have hf := o_in c11 hf
      refine lv_iload_n hx hb dX0_sortOf_14 rfl (lv_at hl 0 rfl) ?_
      refine lv_bipush (v := 122) hx hb dX0_sortOf_15 (by decide) ?_
      refine lv_icmp_gt (tgt := 22) hx hb dX0_sortOf_17 (by decide) (fun c17 => ?_) (fun c17 => ?_)
      · have hf := o_ip c17 hf
        refine lv_iload_n hx hb dX0_sortOf_22 rfl (lv_at hl 0 rfl) ?_
        refine lv_bipush (v := 48) hx hb dX0_sortOf_23 (by decide) ?_
        refine lv_icmp_lt (tgt := 38) hx hb dX0_sortOf_25 (by decide) (fun c25 => ?_) (fun c25 => ?_)
        · have hf := o_ip c25 hf
          refine lv_iconst (v := 3) hx hb dX0_sortOf_38 (by decide) ?_
          obtain rfl := o_ret hf
          exact k_iret hx hb hr hP hD hS (Nat.zero_le _) (Nat.zero_le _) hlocks dX0_sortOf_39
        · have hf := o_in c25 hf
          refine lv_iload_n hx hb dX0_sortOf_28 rfl (lv_at hl 0 rfl) ?_
          refine lv_bipush (v := 57) hx hb dX0_sortOf_29 (by decide) ?_
          refine lv_icmp_gt (tgt := 38) hx hb dX0_sortOf_31 (by decide) (fun c31 => ?_) (fun c31 => ?_)
          · have hf := o_ip c31 hf
            refine lv_iconst (v := 3) hx hb dX0_sortOf_38 (by decide) ?_
            obtain rfl := o_ret hf
            exact k_iret hx hb hr hP hD hS (Nat.zero_le _) (Nat.zero_le _) hlocks dX0_sortOf_39
          · have hf := o_in c31 hf
            refine lv_iconst (v := 2) hx hb dX0_sortOf_34 (by decide) ?_
            refine lv_goto (tgt := 39) hx hb dX0_sortOf_35 (by decide) ?_
            obtain rfl := o_ret hf
            exact k_iret hx hb hr hP hD hS (Nat.zero_le _) (Nat.zero_le _) hlocks dX0_sortOf_39
      · have hf := o_in c17 hf
        refine lv_iconst (v := 1) hx hb dX0_sortOf_20 (by decide) ?_
        obtain rfl := o_ret hf
        exact k_iret hx hb hr hP hD hS (Nat.zero_le _) (Nat.zero_le _) hlocks dX0_sortOf_21
  · have hf := o_ip c3 hf
    refine lv_iconst (v := 0) hx hb dX0_sortOf_6 (by decide) ?_
    obtain rfl := o_ret hf
    exact k_iret hx hb hr hP hD hS (Nat.zero_le _) (Nat.zero_le _) hlocks dX0_sortOf_7
noncomputable def mX0_beginsToken (n0 : Nat) (f0 : Nat → Int32) (a1 : Int32) : Option (Int32) :=
  (mX5_at n0 f0 a1).bind fun r2 =>
  (mX0_sortOf r2).bind fun r5 =>
  if r5 = 0 then
  (some 0)
  else
  (if r5 = 3 then
  (some 1)
  else
  (if a1 = 0 then
  (some 1)
  else
  ((mX5_at n0 f0 (a1 - 1)).bind fun r28 =>
  (mX0_sortOf r28).bind fun r31 =>
  if r31 = r5 then
  (some 0)
  else
  (some 1))))
abbrev rmX0_beginsToken : Room := { frames := 1, cells := 0, slots := 0, locals := 21 }
set_option maxRecDepth 100000 in
set_option maxHeartbeats 4000000 in
theorem zX0_beginsToken (l : Launch) (D : va_G) (cy : Nat → ClassId) (sa : Nat → Nat) (ws : va_W) (sz : Nat) (k0 d0 n0 : Nat) (f0 : Nat → Int32) (a1 : Int32) (res : Int32) (ha0 : ws[k0]? = some (kII d0 (cy 0) n0 f0)) (hf : mX0_beginsToken n0 f0 a1 = some res) : kMi l yX0_beginsToken (wsK yX0_beginsToken cX0_beginsToken 3 (some .boolean)) rmX0_beginsToken D cy sa (ws) sz [.ref d0, .int a1] res (ws) 0 0 := by
  refine kM_of (Qc := fun A => kQi D A res (ws)) (cc := cX0_beginsToken) (maxL := 3) (ret := (some .boolean)) (by decide) (Nat.le_of_ble_eq_true rfl) ?_
  intro p e s m below meth c A hx hb hml hr hts hown hlocks hin hA hP hD hS hE hsz ls hl
  have hown : s.vm.findClass RX0 = some m.cls := hown
  obtain ⟨H, hH0⟩ : ∃ H, H = s.heap := ⟨_, rfl⟩
  obtain ⟨locs, hlocs0⟩ : ∃ locs : List Loc, locs = [] := ⟨_, rfl⟩
  have hP : va_P D vwCl (ws) H := by rw [hH0]; exact hP
  have hS : va_S A s.heap H locs := by rw [hH0, hlocs0]; exact hS
  have hl : lv_has ls 3 [(0, .ref d0), (1, .int a1)] := hl
  suffices hgoal : W p l e rmX0_beginsToken s m ([.ref d0, .int a1] : List Value).toArray below meth c H locs 0 0 (MQ below (kQi D A res (ws)) ([.ref d0, .int a1] : List Value).toArray s 0 0 A) (F0 m 0 ls []) by rw [hH0, hlocs0] at hgoal; exact hgoal
  clear hH0 hlocs0
  unfold mX0_beginsToken at hf
  refine lv_aload_n hx hb dX0_beginsToken_0 rfl (lv_at hl 0 rfl) ?_
  refine lv_iload_n hx hb dX0_beginsToken_1 rfl (lv_at hl 1 rfl) ?_
  obtain ⟨r2, h2r, hf⟩ := o_bs hf
  refine k_goi (va_runSN (As := [.ref d0, .int a1]) (rest := []) ⟨hx, hb, hml, hown, hts⟩ (zX5_at l D cy sa (ws) H.size k0 d0 n0 f0 a1 r2 ha0 h2r) ⟨va_cnB 2 hts (gB_K wB112) rfl rfl rfl (hE.2.1.1 _ (List.mem_of_getElem? (i := 4) rfl)) (hts _ wB2) (by decide +kernel) ⟨Nat.le_of_ble_eq_true rfl, Nat.le_of_ble_eq_true rfl⟩, hts _ wB111, trivial⟩ ⟨kP.blind, k_pre hP hD hS hE hA⟩ rfl rfl hl.1 rfl (lv_room (Nat.le_of_ble_eq_true rfl)) dX0_beginsToken_2 ⟨Nat.zero_le _, Nat.zero_le _⟩) hD hS hA (fun H locs hP hD hS => ?_)
  obtain ⟨r5, h5r, hf⟩ := o_bs hf
  refine k_goi (va_runS (As := [.int r2]) (rest := []) ⟨hx, hb, hml, hown, hts⟩ (zX0_sortOf l D cy sa (ws) H.size r2  r5  h5r) (va_cwS 1 hts (gB_S wB160 wB161 wB20 wB162) rfl rfl rfl (by decide +kernel) ⟨Nat.le_of_ble_eq_true rfl, Nat.le_of_ble_eq_true rfl⟩) ⟨kP.blind, k_pre hP hD hS hE hA⟩ rfl rfl hl.1 rfl (lv_room (Nat.le_of_ble_eq_true rfl)) dX0_beginsToken_5 ⟨Nat.zero_le _, Nat.zero_le _⟩) hD hS hA (fun H locs hP hD hS => ?_)
  refine lv_istore_n (lv' := [(2, .int r5), (0, .ref d0), (1, .int a1)]) hx hb dX0_beginsToken_8 rfl hl (by decide) rfl (fun ls hl => ?_)
  refine lv_iload_n hx hb dX0_beginsToken_9 rfl (lv_at hl 0 rfl) ?_
  refine lv_if_ne (tgt := 15) hx hb dX0_beginsToken_10 (by decide) (fun c10 => ?_) (fun c10 => ?_)
  · have hf := o_in c10 hf
    refine lv_iload_n hx hb dX0_beginsToken_15 rfl (lv_at hl 0 rfl) ?_
    refine lv_iconst (v := 3) hx hb dX0_beginsToken_16 (by decide) ?_
    refine lv_icmp_eq (tgt := 38) hx hb dX0_beginsToken_17 (by decide) (fun c17 => ?_) (fun c17 => ?_)
    · have hf := o_ip c17 hf
      refine lv_iconst (v := 1) hx hb dX0_beginsToken_38 (by decide) ?_
      refine lv_goto (tgt := 43) hx hb dX0_beginsToken_39 (by decide) ?_
      obtain rfl := o_ret hf
      exact k_zret (v := 1) hx hb hr hP hD hS rfl (Nat.zero_le _) (Nat.zero_le _) hlocks dX0_beginsToken_43
    · have hf := o_in c17 hf
      refine lv_iload_n hx hb dX0_beginsToken_20 rfl (lv_at hl 2 rfl) ?_
      refine lv_if_eq (tgt := 38) hx hb dX0_beginsToken_21 (by decide) (fun c21 => ?_) (fun c21 => ?_)
      · have hf := o_ip c21 hf
        refine lv_iconst (v := 1) hx hb dX0_beginsToken_38 (by decide) ?_
        refine lv_goto (tgt := 43) hx hb dX0_beginsToken_39 (by decide) ?_
        obtain rfl := o_ret hf
        exact k_zret (v := 1) hx hb hr hP hD hS rfl (Nat.zero_le _) (Nat.zero_le _) hlocks dX0_beginsToken_43
      · have hf := o_in c21 hf
        refine lv_aload_n hx hb dX0_beginsToken_24 rfl (lv_at hl 1 rfl) ?_
        refine lv_iload_n hx hb dX0_beginsToken_25 rfl (lv_at hl 2 rfl) ?_
        refine lv_iconst (v := 1) hx hb dX0_beginsToken_26 (by decide) ?_
        refine lv_isub hx hb dX0_beginsToken_27 ?_
        obtain ⟨r28, h28r, hf⟩ := o_bs hf
        refine k_goi (va_runSN (As := [.ref d0, .int (a1 - 1)]) (rest := []) ⟨hx, hb, hml, hown, hts⟩ (zX5_at l D cy sa (ws) H.size k0 d0 n0 f0 (a1 - 1) r28 ha0 h28r) ⟨va_cnB 2 hts (gB_K wB112) rfl rfl rfl (hE.2.1.1 _ (List.mem_of_getElem? (i := 4) rfl)) (hts _ wB2) (by decide +kernel) ⟨Nat.le_of_ble_eq_true rfl, Nat.le_of_ble_eq_true rfl⟩, hts _ wB111, trivial⟩ ⟨kP.blind, k_pre hP hD hS hE hA⟩ rfl rfl hl.1 rfl (lv_room (Nat.le_of_ble_eq_true rfl)) dX0_beginsToken_28 ⟨Nat.zero_le _, Nat.zero_le _⟩) hD hS hA (fun H locs hP hD hS => ?_)
        obtain ⟨r31, h31r, hf⟩ := o_bs hf
        refine k_goi (va_runS (As := [.int r28]) (rest := []) ⟨hx, hb, hml, hown, hts⟩ (zX0_sortOf l D cy sa (ws) H.size r28  r31  h31r) (va_cwS 1 hts (gB_S wB160 wB161 wB20 wB162) rfl rfl rfl (by decide +kernel) ⟨Nat.le_of_ble_eq_true rfl, Nat.le_of_ble_eq_true rfl⟩) ⟨kP.blind, k_pre hP hD hS hE hA⟩ rfl rfl hl.1 rfl (lv_room (Nat.le_of_ble_eq_true rfl)) dX0_beginsToken_31 ⟨Nat.zero_le _, Nat.zero_le _⟩) hD hS hA (fun H locs hP hD hS => ?_)
        refine lv_iload_n hx hb dX0_beginsToken_34 rfl (lv_at hl 0 rfl) ?_
        refine lv_icmp_eq (tgt := 42) hx hb dX0_beginsToken_35 (by decide) (fun c35 => ?_) (fun c35 => ?_)
        · have hf := o_ip c35 hf
          refine lv_iconst (v := 0) hx hb dX0_beginsToken_42 (by decide) ?_
          obtain rfl := o_ret hf
          exact k_zret (v := 0) hx hb hr hP hD hS rfl (Nat.zero_le _) (Nat.zero_le _) hlocks dX0_beginsToken_43
        · have hf := o_in c35 hf
          refine lv_iconst (v := 1) hx hb dX0_beginsToken_38 (by decide) ?_
          refine lv_goto (tgt := 43) hx hb dX0_beginsToken_39 (by decide) ?_
          obtain rfl := o_ret hf
          exact k_zret (v := 1) hx hb hr hP hD hS rfl (Nat.zero_le _) (Nat.zero_le _) hlocks dX0_beginsToken_43
  · have hf := o_ip c10 hf
    refine lv_iconst (v := 0) hx hb dX0_beginsToken_13 (by decide) ?_
    obtain rfl := o_ret hf
    exact k_zret (v := 0) hx hb hr hP hD hS rfl (Nat.zero_le _) (Nat.zero_le _) hlocks dX0_beginsToken_14
noncomputable def mX0_over (a0 : Int32) (a1 : Int32) : Option (Int32) :=
  if a1 ≤ 4 then
  (some 0)
  else
  (some (a0 * (a1 - 4)))
abbrev rmX0_over : Room := { frames := 0, cells := 0, slots := 0, locals := 0 }
set_option maxRecDepth 100000 in
set_option maxHeartbeats 4000000 in
theorem zX0_over (l : Launch) (D : va_G) (cy : Nat → ClassId) (sa : Nat → Nat) (ws : va_W) (sz : Nat) (a0 : Int32) (a1 : Int32) (res : Int32) (hf : mX0_over a0 a1 = some res) : kMi l yX0_over (wsK yX0_over cX0_over 2 (some .int)) rmX0_over D cy sa (ws) sz [.int a0, .int a1] res (ws) 0 0 := by
  refine kM_of (Qc := fun A => kQi D A res (ws)) (cc := cX0_over) (maxL := 2) (ret := (some .int)) (by decide) (Nat.le_of_ble_eq_true rfl) ?_
  intro p e s m below meth c A hx hb hml hr hts hown hlocks hin hA hP hD hS hE hsz ls hl
  have hown : s.vm.findClass RX0 = some m.cls := hown
  obtain ⟨H, hH0⟩ : ∃ H, H = s.heap := ⟨_, rfl⟩
  obtain ⟨locs, hlocs0⟩ : ∃ locs : List Loc, locs = [] := ⟨_, rfl⟩
  have hP : va_P D vwCl (ws) H := by rw [hH0]; exact hP
  have hS : va_S A s.heap H locs := by rw [hH0, hlocs0]; exact hS
  have hl : lv_has ls 2 [(0, .int a0), (1, .int a1)] := hl
  suffices hgoal : W p l e rmX0_over s m ([.int a0, .int a1] : List Value).toArray below meth c H locs 0 0 (MQ below (kQi D A res (ws)) ([.int a0, .int a1] : List Value).toArray s 0 0 A) (F0 m 0 ls []) by rw [hH0, hlocs0] at hgoal; exact hgoal
  clear hH0 hlocs0
  unfold mX0_over at hf
  refine lv_iload_n hx hb dX0_over_0 rfl (lv_at hl 1 rfl) ?_
  refine lv_iconst (v := 4) hx hb dX0_over_1 (by decide) ?_
  refine lv_icmp_le (tgt := 13) hx hb dX0_over_2 (by decide) (fun c2 => ?_) (fun c2 => ?_)
  · have hf := o_ip c2 hf
    refine lv_iconst (v := 0) hx hb dX0_over_13 (by decide) ?_
    obtain rfl := o_ret hf
    exact k_iret hx hb hr hP hD hS (Nat.zero_le _) (Nat.zero_le _) hlocks dX0_over_14
  · have hf := o_in c2 hf
    refine lv_iload_n hx hb dX0_over_5 rfl (lv_at hl 0 rfl) ?_
    refine lv_iload_n hx hb dX0_over_6 rfl (lv_at hl 1 rfl) ?_
    refine lv_iconst (v := 4) hx hb dX0_over_7 (by decide) ?_
    refine lv_isub hx hb dX0_over_8 ?_
    refine lv_imul hx hb dX0_over_9 ?_
    refine lv_goto (tgt := 14) hx hb dX0_over_10 (by decide) ?_
    obtain rfl := o_ret hf
    exact k_iret hx hb hr hP hD hS (Nat.zero_le _) (Nat.zero_le _) hlocks dX0_over_14
noncomputable def mX0_black (a0 : Int32) (a1 : Int32) (a2 : Int32) : Option (Int32) :=
  if a0 = 4 then
  ((mX0_over a1 a2).bind fun r30 =>
  some r30)
  else if a0 = 5 then
  (if a2 = 0 then
  ((mX0_over a1 0).bind fun r46 =>
  if a2 ≤ 6 then
  (some (r46 + 0))
  else
  (some (r46 + a1)))
  else
  ((mX0_over a1 (a2 + 2)).bind fun r46 =>
  if a2 ≤ 6 then
  (some (r46 + 0))
  else
  (some (r46 + a1))))
  else 
  (some 0)
abbrev rmX0_black : Room := { frames := 1, cells := 0, slots := 0, locals := 21 }
set_option maxRecDepth 100000 in
set_option maxHeartbeats 4000000 in
theorem zX0_black (l : Launch) (D : va_G) (cy : Nat → ClassId) (sa : Nat → Nat) (ws : va_W) (sz : Nat) (a0 : Int32) (a1 : Int32) (a2 : Int32) (res : Int32) (hf : mX0_black a0 a1 a2 = some res) : kMi l yX0_black (wsK yX0_black cX0_black 3 (some .int)) rmX0_black D cy sa (ws) sz [.int a0, .int a1, .int a2] res (ws) 0 0 := by
  refine kM_of (Qc := fun A => kQi D A res (ws)) (cc := cX0_black) (maxL := 3) (ret := (some .int)) (by decide) (Nat.le_of_ble_eq_true rfl) ?_
  intro p e s m below meth c A hx hb hml hr hts hown hlocks hin hA hP hD hS hE hsz ls hl
  have hown : s.vm.findClass RX0 = some m.cls := hown
  obtain ⟨H, hH0⟩ : ∃ H, H = s.heap := ⟨_, rfl⟩
  obtain ⟨locs, hlocs0⟩ : ∃ locs : List Loc, locs = [] := ⟨_, rfl⟩
  have hP : va_P D vwCl (ws) H := by rw [hH0]; exact hP
  have hS : va_S A s.heap H locs := by rw [hH0, hlocs0]; exact hS
  have hl : lv_has ls 3 [(0, .int a0), (1, .int a1), (2, .int a2)] := hl
  suffices hgoal : W p l e rmX0_black s m ([.int a0, .int a1, .int a2] : List Value).toArray below meth c H locs 0 0 (MQ below (kQi D A res (ws)) ([.int a0, .int a1, .int a2] : List Value).toArray s 0 0 A) (F0 m 0 ls []) by rw [hH0, hlocs0] at hgoal; exact hgoal
  clear hH0 hlocs0
  unfold mX0_black at hf
  refine lv_iload_n hx hb dX0_black_0 rfl (lv_at hl 0 rfl) ?_
  by_cases c1_4 : a0 = 4
  · have hf := o_ip c1_4 hf
    refine lv_lookup (tgt := 28) hx hb dX0_black_1 (by decide) (off := 27) (by rw [c1_4]; decide) (by decide) ?_
    refine lv_iload_n hx hb dX0_black_28 rfl (lv_at hl 1 rfl) ?_
    refine lv_iload_n hx hb dX0_black_29 rfl (lv_at hl 2 rfl) ?_
    obtain ⟨r30, h30r, hf⟩ := o_bs hf
    refine k_goi (va_runS (As := [.int a1, .int a2]) (rest := []) ⟨hx, hb, hml, hown, hts⟩ (zX0_over l D cy sa (ws) H.size a1 a2  r30  h30r) (va_cwS 2 hts (gB_S wB344 wB345 wB20 wB346) rfl rfl rfl (by decide +kernel) ⟨Nat.le_of_ble_eq_true rfl, Nat.le_of_ble_eq_true rfl⟩) ⟨kP.blind, k_pre hP hD hS hE hA⟩ rfl rfl hl.1 rfl (lv_room (Nat.le_of_ble_eq_true rfl)) dX0_black_30 ⟨Nat.zero_le _, Nat.zero_le _⟩) hD hS hA (fun H locs hP hD hS => ?_)
    obtain rfl := o_ret hf
    exact k_iret hx hb hr hP hD hS (Nat.zero_le _) (Nat.zero_le _) hlocks dX0_black_33
  have hf := o_in c1_4 hf
  by_cases c1_5 : a0 = 5
  · have hf := o_ip c1_5 hf
    refine lv_lookup (tgt := 34) hx hb dX0_black_1 (by decide) (off := 33) (by rw [c1_5]; decide) (by decide) ?_
    refine lv_iload_n hx hb dX0_black_34 rfl (lv_at hl 1 rfl) ?_
    refine lv_iload_n hx hb dX0_black_35 rfl (lv_at hl 2 rfl) ?_
    refine lv_if_ne (tgt := 43) hx hb dX0_black_36 (by decide) (fun c36 => ?_) (fun c36 => ?_)
    · have hf := o_in c36 hf
      refine lv_iload_n hx hb dX0_black_43 rfl (lv_at hl 2 rfl) ?_
      refine lv_iconst (v := 2) hx hb dX0_black_44 (by decide) ?_
      refine lv_iadd hx hb dX0_black_45 ?_
      obtain ⟨r46, h46r, hf⟩ := o_bs hf
      refine k_goi (va_runS (As := [.int a1, .int (a2 + 2)]) (rest := []) ⟨hx, hb, hml, hown, hts⟩ (zX0_over l D cy sa (ws) H.size a1 (a2 + 2)  r46  h46r) (va_cwS 2 hts (gB_S wB344 wB345 wB20 wB346) rfl rfl rfl (by decide +kernel) ⟨Nat.le_of_ble_eq_true rfl, Nat.le_of_ble_eq_true rfl⟩) ⟨kP.blind, k_pre hP hD hS hE hA⟩ rfl rfl hl.1 rfl (lv_room (Nat.le_of_ble_eq_true rfl)) dX0_black_46 ⟨Nat.zero_le _, Nat.zero_le _⟩) hD hS hA (fun H locs hP hD hS => ?_)
      refine lv_iload_n hx hb dX0_black_49 rfl (lv_at hl 2 rfl) ?_
      refine lv_bipush (v := 6) hx hb dX0_black_50 (by decide) ?_
      refine lv_icmp_le (tgt := 59) hx hb dX0_black_52 (by decide) (fun c52 => ?_) (fun c52 => ?_)
      · have hf := o_ip c52 hf
        refine lv_iconst (v := 0) hx hb dX0_black_59 (by decide) ?_
        refine lv_iadd hx hb dX0_black_60 ?_
        obtain rfl := o_ret hf
        exact k_iret hx hb hr hP hD hS (Nat.zero_le _) (Nat.zero_le _) hlocks dX0_black_61
      · have hf := o_in c52 hf
        refine lv_iload_n hx hb dX0_black_55 rfl (lv_at hl 1 rfl) ?_
        refine lv_goto (tgt := 60) hx hb dX0_black_56 (by decide) ?_
        refine lv_iadd hx hb dX0_black_60 ?_
        obtain rfl := o_ret hf
        exact k_iret hx hb hr hP hD hS (Nat.zero_le _) (Nat.zero_le _) hlocks dX0_black_61
    · have hf := o_ip c36 hf
      refine lv_iconst (v := 0) hx hb dX0_black_39 (by decide) ?_
      refine lv_goto (tgt := 46) hx hb dX0_black_40 (by decide) ?_
      obtain ⟨r46, h46r, hf⟩ := o_bs hf
      refine k_goi (va_runS (As := [.int a1, .int 0]) (rest := []) ⟨hx, hb, hml, hown, hts⟩ (zX0_over l D cy sa (ws) H.size a1 0  r46  h46r) (va_cwS 2 hts (gB_S wB344 wB345 wB20 wB346) rfl rfl rfl (by decide +kernel) ⟨Nat.le_of_ble_eq_true rfl, Nat.le_of_ble_eq_true rfl⟩) ⟨kP.blind, k_pre hP hD hS hE hA⟩ rfl rfl hl.1 rfl (lv_room (Nat.le_of_ble_eq_true rfl)) dX0_black_46 ⟨Nat.zero_le _, Nat.zero_le _⟩) hD hS hA (fun H locs hP hD hS => ?_)
      refine lv_iload_n hx hb dX0_black_49 rfl (lv_at hl 2 rfl) ?_
      refine lv_bipush (v := 6) hx hb dX0_black_50 (by decide) ?_
      refine lv_icmp_le (tgt := 59) hx hb dX0_black_52 (by decide) (fun c52 => ?_) (fun c52 => ?_)
      · have hf := o_ip c52 hf
        refine lv_iconst (v := 0) hx hb dX0_black_59 (by decide) ?_
        refine lv_iadd hx hb dX0_black_60 ?_
        obtain rfl := o_ret hf
        exact k_iret hx hb hr hP hD hS (Nat.zero_le _) (Nat.zero_le _) hlocks dX0_black_61
      · have hf := o_in c52 hf
        refine lv_iload_n hx hb dX0_black_55 rfl (lv_at hl 1 rfl) ?_
        refine lv_goto (tgt := 60) hx hb dX0_black_56 (by decide) ?_
        refine lv_iadd hx hb dX0_black_60 ?_
        obtain rfl := o_ret hf
        exact k_iret hx hb hr hP hD hS (Nat.zero_le _) (Nat.zero_le _) hlocks dX0_black_61
  have hf := o_in c1_5 hf
  refine lv_lookup (tgt := 62) hx hb dX0_black_1 (by decide) (off := 61) ((lv_osw c1_4 rfl).trans ((lv_osw c1_5 rfl).trans rfl)) (by decide) ?_
  refine lv_iconst (v := 0) hx hb dX0_black_62 (by decide) ?_
  obtain rfl := o_ret hf
  exact k_iret hx hb hr hP hD hS (Nat.zero_le _) (Nat.zero_le _) hlocks dX0_black_63
noncomputable def mX0_blue (a0 : Int32) (a1 : Int32) (a2 : Int32) : Option (Int32) :=
  if a0 = 0 then
  (some (a1 * a2))
  else if a0 = 6 then
  (some ((a1 * a2) / 2))
  else 
  (some 0)
abbrev rmX0_blue : Room := { frames := 0, cells := 0, slots := 0, locals := 0 }
set_option maxRecDepth 100000 in
set_option maxHeartbeats 4000000 in
theorem zX0_blue (l : Launch) (D : va_G) (cy : Nat → ClassId) (sa : Nat → Nat) (ws : va_W) (sz : Nat) (a0 : Int32) (a1 : Int32) (a2 : Int32) (res : Int32) (hf : mX0_blue a0 a1 a2 = some res) : kMi l yX0_blue (wsK yX0_blue cX0_blue 4 (some .int)) rmX0_blue D cy sa (ws) sz [.int a0, .int a1, .int a2] res (ws) 0 0 := by
  refine kM_of (Qc := fun A => kQi D A res (ws)) (cc := cX0_blue) (maxL := 4) (ret := (some .int)) (by decide) (Nat.le_of_ble_eq_true rfl) ?_
  intro p e s m below meth c A hx hb hml hr hts hown hlocks hin hA hP hD hS hE hsz ls hl
  have hown : s.vm.findClass RX0 = some m.cls := hown
  obtain ⟨H, hH0⟩ : ∃ H, H = s.heap := ⟨_, rfl⟩
  obtain ⟨locs, hlocs0⟩ : ∃ locs : List Loc, locs = [] := ⟨_, rfl⟩
  have hP : va_P D vwCl (ws) H := by rw [hH0]; exact hP
  have hS : va_S A s.heap H locs := by rw [hH0, hlocs0]; exact hS
  have hl : lv_has ls 4 [(0, .int a0), (1, .int a1), (2, .int a2)] := hl
  suffices hgoal : W p l e rmX0_blue s m ([.int a0, .int a1, .int a2] : List Value).toArray below meth c H locs 0 0 (MQ below (kQi D A res (ws)) ([.int a0, .int a1, .int a2] : List Value).toArray s 0 0 A) (F0 m 0 ls []) by rw [hH0, hlocs0] at hgoal; exact hgoal
  clear hH0 hlocs0
  unfold mX0_blue at hf
  refine lv_iload_n hx hb dX0_blue_0 rfl (lv_at hl 1 rfl) ?_
  refine lv_iload_n hx hb dX0_blue_1 rfl (lv_at hl 2 rfl) ?_
  refine lv_imul hx hb dX0_blue_2 ?_
  refine lv_istore_n (lv' := [(3, .int (a1 * a2)), (0, .int a0), (1, .int a1), (2, .int a2)]) hx hb dX0_blue_3 rfl hl (by decide) rfl (fun ls hl => ?_)
  refine lv_iload_n hx hb dX0_blue_4 rfl (lv_at hl 1 rfl) ?_
  by_cases c5_0 : a0 = 0
  · have hf := o_ip c5_0 hf
    refine lv_lookup (tgt := 32) hx hb dX0_blue_5 (by decide) (off := 27) (by rw [c5_0]; decide) (by decide) ?_
    refine lv_iload_n hx hb dX0_blue_32 rfl (lv_at hl 0 rfl) ?_
    obtain rfl := o_ret hf
    exact k_iret hx hb hr hP hD hS (Nat.zero_le _) (Nat.zero_le _) hlocks dX0_blue_33
  have hf := o_in c5_0 hf
  by_cases c5_6 : a0 = 6
  · have hf := o_ip c5_6 hf
    refine lv_lookup (tgt := 34) hx hb dX0_blue_5 (by decide) (off := 29) (by rw [c5_6]; decide) (by decide) ?_
    refine lv_iload_n hx hb dX0_blue_34 rfl (lv_at hl 0 rfl) ?_
    refine lv_iconst (v := 2) hx hb dX0_blue_35 (by decide) ?_
    refine lv_idiv hx hb dX0_blue_36 (by decide) ?_
    obtain rfl := o_ret hf
    exact k_iret hx hb hr hP hD hS (Nat.zero_le _) (Nat.zero_le _) hlocks dX0_blue_37
  have hf := o_in c5_6 hf
  refine lv_lookup (tgt := 38) hx hb dX0_blue_5 (by decide) (off := 33) ((lv_osw c5_0 rfl).trans ((lv_osw c5_6 rfl).trans rfl)) (by decide) ?_
  refine lv_iconst (v := 0) hx hb dX0_blue_38 (by decide) ?_
  obtain rfl := o_ret hf
  exact k_iret hx hb hr hP hD hS (Nat.zero_le _) (Nat.zero_le _) hlocks dX0_blue_39
noncomputable def mX0_oilPlace (a0 : Int32) (a1 : Int32) : Option (Int32) :=
  some (((a0 - 1) * 120) + a1)
abbrev rmX0_oilPlace : Room := { frames := 0, cells := 0, slots := 0, locals := 0 }
set_option maxRecDepth 100000 in
set_option maxHeartbeats 4000000 in
theorem zX0_oilPlace (l : Launch) (D : va_G) (cy : Nat → ClassId) (sa : Nat → Nat) (ws : va_W) (sz : Nat) (a0 : Int32) (a1 : Int32) (res : Int32) (hf : mX0_oilPlace a0 a1 = some res) : kMi l yX0_oilPlace (wsK yX0_oilPlace cX0_oilPlace 2 (some .int)) rmX0_oilPlace D cy sa (ws) sz [.int a0, .int a1] res (ws) 0 0 := by
  refine kM_of (Qc := fun A => kQi D A res (ws)) (cc := cX0_oilPlace) (maxL := 2) (ret := (some .int)) (by decide) (Nat.le_of_ble_eq_true rfl) ?_
  intro p e s m below meth c A hx hb hml hr hts hown hlocks hin hA hP hD hS hE hsz ls hl
  have hown : s.vm.findClass RX0 = some m.cls := hown
  obtain ⟨H, hH0⟩ : ∃ H, H = s.heap := ⟨_, rfl⟩
  obtain ⟨locs, hlocs0⟩ : ∃ locs : List Loc, locs = [] := ⟨_, rfl⟩
  have hP : va_P D vwCl (ws) H := by rw [hH0]; exact hP
  have hS : va_S A s.heap H locs := by rw [hH0, hlocs0]; exact hS
  have hl : lv_has ls 2 [(0, .int a0), (1, .int a1)] := hl
  suffices hgoal : W p l e rmX0_oilPlace s m ([.int a0, .int a1] : List Value).toArray below meth c H locs 0 0 (MQ below (kQi D A res (ws)) ([.int a0, .int a1] : List Value).toArray s 0 0 A) (F0 m 0 ls []) by rw [hH0, hlocs0] at hgoal; exact hgoal
  clear hH0 hlocs0
  unfold mX0_oilPlace at hf
  refine lv_iload_n hx hb dX0_oilPlace_0 rfl (lv_at hl 0 rfl) ?_
  refine lv_iconst (v := 1) hx hb dX0_oilPlace_1 (by decide) ?_
  refine lv_isub hx hb dX0_oilPlace_2 ?_
  refine lv_bipush (v := 120) hx hb dX0_oilPlace_3 (by decide) ?_
  refine lv_imul hx hb dX0_oilPlace_5 ?_
  refine lv_iload_n hx hb dX0_oilPlace_6 rfl (lv_at hl 1 rfl) ?_
  refine lv_iadd hx hb dX0_oilPlace_7 ?_
  obtain rfl := o_ret hf
  exact k_iret hx hb hr hP hD hS (Nat.zero_le _) (Nat.zero_le _) hlocks dX0_oilPlace_8
noncomputable def mX0_cracked (a0 : Int32) (a1 : Int32) : Option (Int32) :=
  some ((a0 * (100 - a1)) / 20)
abbrev rmX0_cracked : Room := { frames := 0, cells := 0, slots := 0, locals := 0 }
set_option maxRecDepth 100000 in
set_option maxHeartbeats 4000000 in
theorem zX0_cracked (l : Launch) (D : va_G) (cy : Nat → ClassId) (sa : Nat → Nat) (ws : va_W) (sz : Nat) (a0 : Int32) (a1 : Int32) (res : Int32) (hf : mX0_cracked a0 a1 = some res) : kMi l yX0_cracked (wsK yX0_cracked cX0_cracked 2 (some .int)) rmX0_cracked D cy sa (ws) sz [.int a0, .int a1] res (ws) 0 0 := by
  refine kM_of (Qc := fun A => kQi D A res (ws)) (cc := cX0_cracked) (maxL := 2) (ret := (some .int)) (by decide) (Nat.le_of_ble_eq_true rfl) ?_
  intro p e s m below meth c A hx hb hml hr hts hown hlocks hin hA hP hD hS hE hsz ls hl
  have hown : s.vm.findClass RX0 = some m.cls := hown
  obtain ⟨H, hH0⟩ : ∃ H, H = s.heap := ⟨_, rfl⟩
  obtain ⟨locs, hlocs0⟩ : ∃ locs : List Loc, locs = [] := ⟨_, rfl⟩
  have hP : va_P D vwCl (ws) H := by rw [hH0]; exact hP
  have hS : va_S A s.heap H locs := by rw [hH0, hlocs0]; exact hS
  have hl : lv_has ls 2 [(0, .int a0), (1, .int a1)] := hl
  suffices hgoal : W p l e rmX0_cracked s m ([.int a0, .int a1] : List Value).toArray below meth c H locs 0 0 (MQ below (kQi D A res (ws)) ([.int a0, .int a1] : List Value).toArray s 0 0 A) (F0 m 0 ls []) by rw [hH0, hlocs0] at hgoal; exact hgoal
  clear hH0 hlocs0
  unfold mX0_cracked at hf
  refine lv_iload_n hx hb dX0_cracked_0 rfl (lv_at hl 0 rfl) ?_
  refine lv_bipush (v := 100) hx hb dX0_cracked_1 (by decide) ?_
  refine lv_iload_n hx hb dX0_cracked_3 rfl (lv_at hl 1 rfl) ?_
  refine lv_isub hx hb dX0_cracked_4 ?_
  refine lv_imul hx hb dX0_cracked_5 ?_
  refine lv_bipush (v := 20) hx hb dX0_cracked_6 (by decide) ?_
  refine lv_idiv hx hb dX0_cracked_8 (by decide) ?_
  obtain rfl := o_ret hf
  exact k_iret hx hb hr hP hD hS (Nat.zero_le _) (Nat.zero_le _) hlocks dX0_cracked_9
noncomputable def mX0_sweet (a0 : Int32) (a1 : Int32) (a2 : Int32) : Option (Int32) :=
  if a0 = 2 then
  ((mX0_cracked a1 a2).bind fun r30 =>
  some r30)
  else if a0 = 6 then
  (if 30 ≤ a2 then
  (some 0)
  else
  (some 1))
  else 
  (some 0)
abbrev rmX0_sweet : Room := { frames := 1, cells := 0, slots := 0, locals := 21 }
set_option maxRecDepth 100000 in
set_option maxHeartbeats 4000000 in
theorem zX0_sweet (l : Launch) (D : va_G) (cy : Nat → ClassId) (sa : Nat → Nat) (ws : va_W) (sz : Nat) (a0 : Int32) (a1 : Int32) (a2 : Int32) (res : Int32) (hf : mX0_sweet a0 a1 a2 = some res) : kMi l yX0_sweet (wsK yX0_sweet cX0_sweet 3 (some .int)) rmX0_sweet D cy sa (ws) sz [.int a0, .int a1, .int a2] res (ws) 0 0 := by
  refine kM_of (Qc := fun A => kQi D A res (ws)) (cc := cX0_sweet) (maxL := 3) (ret := (some .int)) (by decide) (Nat.le_of_ble_eq_true rfl) ?_
  intro p e s m below meth c A hx hb hml hr hts hown hlocks hin hA hP hD hS hE hsz ls hl
  have hown : s.vm.findClass RX0 = some m.cls := hown
  obtain ⟨H, hH0⟩ : ∃ H, H = s.heap := ⟨_, rfl⟩
  obtain ⟨locs, hlocs0⟩ : ∃ locs : List Loc, locs = [] := ⟨_, rfl⟩
  have hP : va_P D vwCl (ws) H := by rw [hH0]; exact hP
  have hS : va_S A s.heap H locs := by rw [hH0, hlocs0]; exact hS
  have hl : lv_has ls 3 [(0, .int a0), (1, .int a1), (2, .int a2)] := hl
  suffices hgoal : W p l e rmX0_sweet s m ([.int a0, .int a1, .int a2] : List Value).toArray below meth c H locs 0 0 (MQ below (kQi D A res (ws)) ([.int a0, .int a1, .int a2] : List Value).toArray s 0 0 A) (F0 m 0 ls []) by rw [hH0, hlocs0] at hgoal; exact hgoal
  clear hH0 hlocs0
  unfold mX0_sweet at hf
  refine lv_iload_n hx hb dX0_sweet_0 rfl (lv_at hl 0 rfl) ?_
  by_cases c1_2 : a0 = 2
  · have hf := o_ip c1_2 hf
    refine lv_lookup (tgt := 28) hx hb dX0_sweet_1 (by decide) (off := 27) (by rw [c1_2]; decide) (by decide) ?_
    refine lv_iload_n hx hb dX0_sweet_28 rfl (lv_at hl 1 rfl) ?_
    refine lv_iload_n hx hb dX0_sweet_29 rfl (lv_at hl 2 rfl) ?_
    obtain ⟨r30, h30r, hf⟩ := o_bs hf
    refine k_goi (va_runS (As := [.int a1, .int a2]) (rest := []) ⟨hx, hb, hml, hown, hts⟩ (zX0_cracked l D cy sa (ws) H.size a1 a2  r30  h30r) (va_cwS 2 hts (gB_S wB335 wB336 wB20 wB337) rfl rfl rfl (by decide +kernel) ⟨Nat.le_of_ble_eq_true rfl, Nat.le_of_ble_eq_true rfl⟩) ⟨kP.blind, k_pre hP hD hS hE hA⟩ rfl rfl hl.1 rfl (lv_room (Nat.le_of_ble_eq_true rfl)) dX0_sweet_30 ⟨Nat.zero_le _, Nat.zero_le _⟩) hD hS hA (fun H locs hP hD hS => ?_)
    obtain rfl := o_ret hf
    exact k_iret hx hb hr hP hD hS (Nat.zero_le _) (Nat.zero_le _) hlocks dX0_sweet_33
  have hf := o_in c1_2 hf
  by_cases c1_6 : a0 = 6
  · have hf := o_ip c1_6 hf
    refine lv_lookup (tgt := 34) hx hb dX0_sweet_1 (by decide) (off := 33) (by rw [c1_6]; decide) (by decide) ?_
    refine lv_iload_n hx hb dX0_sweet_34 rfl (lv_at hl 2 rfl) ?_
    refine lv_bipush (v := 30) hx hb dX0_sweet_35 (by decide) ?_
    refine lv_icmp_ge (tgt := 44) hx hb dX0_sweet_37 (by decide) (fun c37 => ?_) (fun c37 => ?_)
    · have hf := o_ip c37 hf
      refine lv_iconst (v := 0) hx hb dX0_sweet_44 (by decide) ?_
      obtain rfl := o_ret hf
      exact k_iret hx hb hr hP hD hS (Nat.zero_le _) (Nat.zero_le _) hlocks dX0_sweet_45
    · have hf := o_in c37 hf
      refine lv_iconst (v := 1) hx hb dX0_sweet_40 (by decide) ?_
      refine lv_goto (tgt := 45) hx hb dX0_sweet_41 (by decide) ?_
      obtain rfl := o_ret hf
      exact k_iret hx hb hr hP hD hS (Nat.zero_le _) (Nat.zero_le _) hlocks dX0_sweet_45
  have hf := o_in c1_6 hf
  refine lv_lookup (tgt := 46) hx hb dX0_sweet_1 (by decide) (off := 45) ((lv_osw c1_2 rfl).trans ((lv_osw c1_6 rfl).trans rfl)) (by decide) ?_
  refine lv_iconst (v := 0) hx hb dX0_sweet_46 (by decide) ?_
  obtain rfl := o_ret hf
  exact k_iret hx hb hr hP hD hS (Nat.zero_le _) (Nat.zero_le _) hlocks dX0_sweet_47
noncomputable def mX0_sharp (a0 : Int32) (a1 : Int32) (a2 : Int32) : Option (Int32) :=
  (mX0_cracked a0 a2).bind fun r2 =>
  if a1 = 0 then
  (some ((r2 / 2) + a0))
  else
  (some ((r2 / 2) + 0))
abbrev rmX0_sharp : Room := { frames := 1, cells := 0, slots := 0, locals := 21 }
set_option maxRecDepth 100000 in
set_option maxHeartbeats 4000000 in
theorem zX0_sharp (l : Launch) (D : va_G) (cy : Nat → ClassId) (sa : Nat → Nat) (ws : va_W) (sz : Nat) (a0 : Int32) (a1 : Int32) (a2 : Int32) (res : Int32) (hf : mX0_sharp a0 a1 a2 = some res) : kMi l yX0_sharp (wsK yX0_sharp cX0_sharp 3 (some .int)) rmX0_sharp D cy sa (ws) sz [.int a0, .int a1, .int a2] res (ws) 0 0 := by
  refine kM_of (Qc := fun A => kQi D A res (ws)) (cc := cX0_sharp) (maxL := 3) (ret := (some .int)) (by decide) (Nat.le_of_ble_eq_true rfl) ?_
  intro p e s m below meth c A hx hb hml hr hts hown hlocks hin hA hP hD hS hE hsz ls hl
  have hown : s.vm.findClass RX0 = some m.cls := hown
  obtain ⟨H, hH0⟩ : ∃ H, H = s.heap := ⟨_, rfl⟩
  obtain ⟨locs, hlocs0⟩ : ∃ locs : List Loc, locs = [] := ⟨_, rfl⟩
  have hP : va_P D vwCl (ws) H := by rw [hH0]; exact hP
  have hS : va_S A s.heap H locs := by rw [hH0, hlocs0]; exact hS
  have hl : lv_has ls 3 [(0, .int a0), (1, .int a1), (2, .int a2)] := hl
  suffices hgoal : W p l e rmX0_sharp s m ([.int a0, .int a1, .int a2] : List Value).toArray below meth c H locs 0 0 (MQ below (kQi D A res (ws)) ([.int a0, .int a1, .int a2] : List Value).toArray s 0 0 A) (F0 m 0 ls []) by rw [hH0, hlocs0] at hgoal; exact hgoal
  clear hH0 hlocs0
  unfold mX0_sharp at hf
  refine lv_iload_n hx hb dX0_sharp_0 rfl (lv_at hl 0 rfl) ?_
  refine lv_iload_n hx hb dX0_sharp_1 rfl (lv_at hl 2 rfl) ?_
  obtain ⟨r2, h2r, hf⟩ := o_bs hf
  refine k_goi (va_runS (As := [.int a0, .int a2]) (rest := []) ⟨hx, hb, hml, hown, hts⟩ (zX0_cracked l D cy sa (ws) H.size a0 a2  r2  h2r) (va_cwS 2 hts (gB_S wB335 wB336 wB20 wB337) rfl rfl rfl (by decide +kernel) ⟨Nat.le_of_ble_eq_true rfl, Nat.le_of_ble_eq_true rfl⟩) ⟨kP.blind, k_pre hP hD hS hE hA⟩ rfl rfl hl.1 rfl (lv_room (Nat.le_of_ble_eq_true rfl)) dX0_sharp_2 ⟨Nat.zero_le _, Nat.zero_le _⟩) hD hS hA (fun H locs hP hD hS => ?_)
  refine lv_iconst (v := 2) hx hb dX0_sharp_5 (by decide) ?_
  refine lv_idiv hx hb dX0_sharp_6 (by decide) ?_
  refine lv_iload_n hx hb dX0_sharp_7 rfl (lv_at hl 1 rfl) ?_
  refine lv_if_ne (tgt := 15) hx hb dX0_sharp_8 (by decide) (fun c8 => ?_) (fun c8 => ?_)
  · have hf := o_in c8 hf
    refine lv_iconst (v := 0) hx hb dX0_sharp_15 (by decide) ?_
    refine lv_iadd hx hb dX0_sharp_16 ?_
    obtain rfl := o_ret hf
    exact k_iret hx hb hr hP hD hS (Nat.zero_le _) (Nat.zero_le _) hlocks dX0_sharp_17
  · have hf := o_ip c8 hf
    refine lv_iload_n hx hb dX0_sharp_11 rfl (lv_at hl 0 rfl) ?_
    refine lv_goto (tgt := 16) hx hb dX0_sharp_12 (by decide) ?_
    refine lv_iadd hx hb dX0_sharp_16 ?_
    obtain rfl := o_ret hf
    exact k_iret hx hb hr hP hD hS (Nat.zero_le _) (Nat.zero_le _) hlocks dX0_sharp_17
noncomputable def mX0_given (u : KS) (a1 : Int32) (a2 : Int32) (a3 : Int32) : Option (Int32) :=
  (mX5_at 120 (gR u 8) a2).bind fun r5 =>
  if r5 = 0 then
  (some 0)
  else
  ((mX5_at 120 (gR u 9) a2).bind fun r30 =>
  if a3 = 0 then
  (if (a1 / 3) = 1 then
  ((mX0_oilPlace ((a1 - a1 / 3 * 3) + 1) a2).bind fun r77 =>
  (mX5_at 360 (gR u 10) r77).bind fun r80 =>
  some r80)
  else
  ((mX0_blue (a1 / 3) ((a1 - a1 / 3 * 3) + 1) r30).bind fun r92 =>
  some r92))
  else if a3 = 1 then
  ((mX5_at 121 (gR u 7) a2).bind fun r105 =>
  (mX0_sweet (a1 / 3) ((a1 - a1 / 3 * 3) + 1) r105).bind fun r108 =>
  some r108)
  else if a3 = 2 then
  (if (a1 / 3) = 3 then
  ((mX5_at 121 (gR u 7) a2).bind fun r127 =>
  (mX0_sharp ((a1 - a1 / 3 * 3) + 1) r30 r127).bind fun r130 =>
  some r130)
  else
  (some 0))
  else 
  ((mX0_black (a1 / 3) ((a1 - a1 / 3 * 3) + 1) r30).bind fun r144 =>
  some r144))
abbrev rmX0_given : Room := { frames := 2, cells := 0, slots := 0, locals := 43 }
set_option maxRecDepth 100000 in
set_option maxHeartbeats 4000000 in
theorem zX0_given (l : Launch) (D : va_G) (cy : Nat → ClassId) (sa : Nat → Nat) (q : Nat → Nat) (rest : va_W) (sz : Nat) (u : KS) (a1 : Int32) (a2 : Int32) (a3 : Int32) (res : Int32) (hf : mX0_given u a1 a2 a3 = some res) : kMi l yX0_given (wsK yX0_given cX0_given 7 (some .int)) rmX0_given D cy sa (WX q cy u ++ rest) sz [.ref (q 10), .int a1, .int a2, .int a3] res (WX q cy u ++ rest) 0 0 := by
  refine kM_of (Qc := fun A => kQi D A res (WX q cy u ++ rest)) (cc := cX0_given) (maxL := 7) (ret := (some .int)) (by decide) (Nat.le_of_ble_eq_true rfl) ?_
  intro p e s m below meth c A hx hb hml hr hts hown hlocks hin hA hP hD hS hE hsz ls hl
  have hown : s.vm.findClass RX0 = some m.cls := hown
  obtain ⟨H, hH0⟩ : ∃ H, H = s.heap := ⟨_, rfl⟩
  obtain ⟨locs, hlocs0⟩ : ∃ locs : List Loc, locs = [] := ⟨_, rfl⟩
  have hP : va_P D vwCl (WX q cy u ++ rest) H := by rw [hH0]; exact hP
  have hS : va_S A s.heap H locs := by rw [hH0, hlocs0]; exact hS
  have hl : lv_has ls 7 [(0, .ref (q 10)), (1, .int a1), (2, .int a2), (3, .int a3)] := hl
  suffices hgoal : W p l e rmX0_given s m ([.ref (q 10), .int a1, .int a2, .int a3] : List Value).toArray below meth c H locs 0 0 (MQ below (kQi D A res (WX q cy u ++ rest)) ([.ref (q 10), .int a1, .int a2, .int a3] : List Value).toArray s 0 0 A) (F0 m 0 ls []) by rw [hH0, hlocs0] at hgoal; exact hgoal
  clear hH0 hlocs0
  unfold mX0_given at hf
  refine lv_aload_n hx hb dX0_given_0 rfl (lv_at hl 0 rfl) ?_
  refine va_get (ci := 0) (v := .ref (q 12)) (C := RX0) (T := TX0) (N := 9) hx hb hts inlX0 hown hE.1 hP 10 rfl rfl 3 (by decide) (hts _ wB52) (fun _ h9 => h9) rfl dX0_given_1 ?_
  refine lv_iload_n hx hb dX0_given_4 rfl (lv_at hl 2 rfl) ?_
  obtain ⟨r5, h5r, hf⟩ := o_bs hf
  refine k_goi (va_runSN (As := [.ref (q 12), .int a2]) (rest := []) ⟨hx, hb, hml, hown, hts⟩ (zX5_at l D cy sa (WX q cy u ++ rest) H.size 12 (q 12) 120 (gR u 8) a2 r5 rfl h5r) ⟨va_cnB 2 hts (gB_K wB112) rfl rfl rfl (hE.2.1.1 _ (List.mem_of_getElem? (i := 4) rfl)) (hts _ wB2) (by decide +kernel) ⟨Nat.le_of_ble_eq_true rfl, Nat.le_of_ble_eq_true rfl⟩, hts _ wB111, trivial⟩ ⟨kP.blind, k_pre hP hD hS hE hA⟩ rfl rfl hl.1 rfl (lv_room (Nat.le_of_ble_eq_true rfl)) dX0_given_5 ⟨Nat.zero_le _, Nat.zero_le _⟩) hD hS hA (fun H locs hP hD hS => ?_)
  refine lv_if_ne (tgt := 13) hx hb dX0_given_8 (by decide) (fun c8 => ?_) (fun c8 => ?_)
  · have hf := o_in c8 hf
    refine lv_iload_n hx hb dX0_given_13 rfl (lv_at hl 1 rfl) ?_
    refine lv_iconst (v := 3) hx hb dX0_given_14 (by decide) ?_
    refine lv_idiv hx hb dX0_given_15 (by decide) ?_
    refine lv_istore (lv' := [(4, .int (a1 / 3)), (0, .ref (q 10)), (1, .int a1), (2, .int a2), (3, .int a3)]) hx hb dX0_given_16 hl (by decide) rfl (fun ls hl => ?_)
    refine lv_iload_n hx hb dX0_given_18 rfl (lv_at hl 2 rfl) ?_
    refine lv_iconst (v := 3) hx hb dX0_given_19 (by decide) ?_
    refine lv_irem hx hb dX0_given_20 (by decide) ?_
    refine lv_iconst (v := 1) hx hb dX0_given_21 (by decide) ?_
    refine lv_iadd hx hb dX0_given_22 ?_
    refine lv_istore (lv' := [(5, .int ((a1 - a1 / 3 * 3) + 1)), (4, .int (a1 / 3)), (0, .ref (q 10)), (1, .int a1), (2, .int a2), (3, .int a3)]) hx hb dX0_given_23 hl (by decide) rfl (fun ls hl => ?_)
    refine lv_aload_n hx hb dX0_given_25 rfl (lv_at hl 2 rfl) ?_
    refine va_get (ci := 0) (v := .ref (q 13)) (C := RX0) (T := TX0) (N := 9) hx hb hts inlX0 hown hE.1 hP 10 rfl rfl 4 (by decide) (hts _ wB53) (fun _ h9 => h9) rfl dX0_given_26 ?_
    refine lv_iload_n hx hb dX0_given_29 rfl (lv_at hl 4 rfl) ?_
    obtain ⟨r30, h30r, hf⟩ := o_bs hf
    refine k_goi (va_runSN (As := [.ref (q 13), .int a2]) (rest := []) ⟨hx, hb, hml, hown, hts⟩ (zX5_at l D cy sa (WX q cy u ++ rest) H.size 13 (q 13) 120 (gR u 9) a2 r30 rfl h30r) ⟨va_cnB 2 hts (gB_K wB112) rfl rfl rfl (hE.2.1.1 _ (List.mem_of_getElem? (i := 4) rfl)) (hts _ wB2) (by decide +kernel) ⟨Nat.le_of_ble_eq_true rfl, Nat.le_of_ble_eq_true rfl⟩, hts _ wB111, trivial⟩ ⟨kP.blind, k_pre hP hD hS hE hA⟩ rfl rfl hl.1 rfl (lv_room (Nat.le_of_ble_eq_true rfl)) dX0_given_30 ⟨Nat.zero_le _, Nat.zero_le _⟩) hD hS hA (fun H locs hP hD hS => ?_)
    refine lv_istore (lv' := [(6, .int r30), (5, .int ((a1 - a1 / 3 * 3) + 1)), (4, .int (a1 / 3)), (0, .ref (q 10)), (1, .int a1), (2, .int a2), (3, .int a3)]) hx hb dX0_given_33 hl (by decide) rfl (fun ls hl => ?_)
    refine lv_iload_n hx hb dX0_given_35 rfl (lv_at hl 6 rfl) ?_
    by_cases c36_0 : a3 = 0
    · have hf := o_ip c36_0 hf
      refine lv_tableIn (tgt := 64) hx hb dX0_given_36 (by rw [c36_0]; decide) (by rw [c36_0]; decide) (off := 28) (by rw [c36_0]; decide) (by decide) ?_
      refine lv_iload hx hb dX0_given_64 (lv_at hl 2 rfl) ?_
      refine lv_iconst (v := 1) hx hb dX0_given_66 (by decide) ?_
      refine lv_icmp_ne (tgt := 86) hx hb dX0_given_67 (by decide) (fun c67 => ?_) (fun c67 => ?_)
      · have hf := o_in c67 hf
        refine lv_iload hx hb dX0_given_86 (lv_at hl 2 rfl) ?_
        refine lv_iload hx hb dX0_given_88 (lv_at hl 1 rfl) ?_
        refine lv_iload hx hb dX0_given_90 (lv_at hl 0 rfl) ?_
        obtain ⟨r92, h92r, hf⟩ := o_bs hf
        refine k_goi (va_runS (As := [.int (a1 / 3), .int ((a1 - a1 / 3 * 3) + 1), .int r30]) (rest := []) ⟨hx, hb, hml, hown, hts⟩ (zX0_blue l D cy sa (WX q cy u ++ rest) H.size (a1 / 3) ((a1 - a1 / 3 * 3) + 1) r30  r92  h92r) (va_cwS 3 hts (gB_S wB329 wB330 wB20 wB331) rfl rfl rfl (by decide +kernel) ⟨Nat.le_of_ble_eq_true rfl, Nat.le_of_ble_eq_true rfl⟩) ⟨kP.blind, k_pre hP hD hS hE hA⟩ rfl rfl hl.1 rfl (lv_room (Nat.le_of_ble_eq_true rfl)) dX0_given_92 ⟨Nat.zero_le _, Nat.zero_le _⟩) hD hS hA (fun H locs hP hD hS => ?_)
        obtain rfl := o_ret hf
        exact k_iret hx hb hr hP hD hS (Nat.zero_le _) (Nat.zero_le _) hlocks dX0_given_95
      · have hf := o_ip c67 hf
        refine lv_aload_n hx hb dX0_given_70 rfl (lv_at hl 3 rfl) ?_
        refine va_get (ci := 0) (v := .ref (q 14)) (C := RX0) (T := TX0) (N := 9) hx hb hts inlX0 hown hE.1 hP 10 rfl rfl 5 (by decide) (hts _ wB54) (fun _ h9 => h9) rfl dX0_given_71 ?_
        refine lv_iload hx hb dX0_given_74 (lv_at hl 1 rfl) ?_
        refine lv_iload_n hx hb dX0_given_76 rfl (lv_at hl 5 rfl) ?_
        obtain ⟨r77, h77r, hf⟩ := o_bs hf
        refine k_goi (va_runS (As := [.int ((a1 - a1 / 3 * 3) + 1), .int a2]) (rest := [.ref (q 14)]) ⟨hx, hb, hml, hown, hts⟩ (zX0_oilPlace l D cy sa (WX q cy u ++ rest) H.size ((a1 - a1 / 3 * 3) + 1) a2  r77  h77r) (va_cwS 2 hts (gB_S wB242 wB243 wB20 wB244) rfl rfl rfl (by decide +kernel) ⟨Nat.le_of_ble_eq_true rfl, Nat.le_of_ble_eq_true rfl⟩) ⟨kP.blind, k_pre hP hD hS hE hA⟩ rfl rfl hl.1 rfl (lv_room (Nat.le_of_ble_eq_true rfl)) dX0_given_77 ⟨Nat.zero_le _, Nat.zero_le _⟩) hD hS hA (fun H locs hP hD hS => ?_)
        obtain ⟨r80, h80r, hf⟩ := o_bs hf
        refine k_goi (va_runSN (As := [.ref (q 14), .int r77]) (rest := []) ⟨hx, hb, hml, hown, hts⟩ (zX5_at l D cy sa (WX q cy u ++ rest) H.size 14 (q 14) 360 (gR u 10) r77 r80 rfl h80r) ⟨va_cnB 2 hts (gB_K wB112) rfl rfl rfl (hE.2.1.1 _ (List.mem_of_getElem? (i := 4) rfl)) (hts _ wB2) (by decide +kernel) ⟨Nat.le_of_ble_eq_true rfl, Nat.le_of_ble_eq_true rfl⟩, hts _ wB111, trivial⟩ ⟨kP.blind, k_pre hP hD hS hE hA⟩ rfl rfl hl.1 rfl (lv_room (Nat.le_of_ble_eq_true rfl)) dX0_given_80 ⟨Nat.zero_le _, Nat.zero_le _⟩) hD hS hA (fun H locs hP hD hS => ?_)
        refine lv_goto (tgt := 95) hx hb dX0_given_83 (by decide) ?_
        obtain rfl := o_ret hf
        exact k_iret hx hb hr hP hD hS (Nat.zero_le _) (Nat.zero_le _) hlocks dX0_given_95
    have hf := o_in c36_0 hf
    by_cases c36_1 : a3 = 1
    · have hf := o_ip c36_1 hf
      refine lv_tableIn (tgt := 96) hx hb dX0_given_36 (by rw [c36_1]; decide) (by rw [c36_1]; decide) (off := 60) (by rw [c36_1]; decide) (by decide) ?_
      refine lv_iload hx hb dX0_given_96 (lv_at hl 2 rfl) ?_
      refine lv_iload hx hb dX0_given_98 (lv_at hl 1 rfl) ?_
      refine lv_aload_n hx hb dX0_given_100 rfl (lv_at hl 3 rfl) ?_
      refine va_get (ci := 0) (v := .ref (q 11)) (C := RX0) (T := TX0) (N := 9) hx hb hts inlX0 hown hE.1 hP 10 rfl rfl 2 (by decide) (hts _ wB51) (fun _ h9 => h9) rfl dX0_given_101 ?_
      refine lv_iload_n hx hb dX0_given_104 rfl (lv_at hl 5 rfl) ?_
      obtain ⟨r105, h105r, hf⟩ := o_bs hf
      refine k_goi (va_runSN (As := [.ref (q 11), .int a2]) (rest := [.int ((a1 - a1 / 3 * 3) + 1), .int (a1 / 3)]) ⟨hx, hb, hml, hown, hts⟩ (zX5_at l D cy sa (WX q cy u ++ rest) H.size 11 (q 11) 121 (gR u 7) a2 r105 rfl h105r) ⟨va_cnB 2 hts (gB_K wB112) rfl rfl rfl (hE.2.1.1 _ (List.mem_of_getElem? (i := 4) rfl)) (hts _ wB2) (by decide +kernel) ⟨Nat.le_of_ble_eq_true rfl, Nat.le_of_ble_eq_true rfl⟩, hts _ wB111, trivial⟩ ⟨kP.blind, k_pre hP hD hS hE hA⟩ rfl rfl hl.1 rfl (lv_room (Nat.le_of_ble_eq_true rfl)) dX0_given_105 ⟨Nat.zero_le _, Nat.zero_le _⟩) hD hS hA (fun H locs hP hD hS => ?_)
      obtain ⟨r108, h108r, hf⟩ := o_bs hf
      refine k_goi (va_runS (As := [.int (a1 / 3), .int ((a1 - a1 / 3 * 3) + 1), .int r105]) (rest := []) ⟨hx, hb, hml, hown, hts⟩ (zX0_sweet l D cy sa (WX q cy u ++ rest) H.size (a1 / 3) ((a1 - a1 / 3 * 3) + 1) r105  r108  h108r) (va_cwS 3 hts (gB_S wB332 wB333 wB20 wB334) rfl rfl rfl (by decide +kernel) ⟨Nat.le_of_ble_eq_true rfl, Nat.le_of_ble_eq_true rfl⟩) ⟨kP.blind, k_pre hP hD hS hE hA⟩ rfl rfl hl.1 rfl (lv_room (Nat.le_of_ble_eq_true rfl)) dX0_given_108 ⟨Nat.zero_le _, Nat.zero_le _⟩) hD hS hA (fun H locs hP hD hS => ?_)
      obtain rfl := o_ret hf
      exact k_iret hx hb hr hP hD hS (Nat.zero_le _) (Nat.zero_le _) hlocks dX0_given_111
    have hf := o_in c36_1 hf
    by_cases c36_2 : a3 = 2
    · have hf := o_ip c36_2 hf
      refine lv_tableIn (tgt := 112) hx hb dX0_given_36 (by rw [c36_2]; decide) (by rw [c36_2]; decide) (off := 76) (by rw [c36_2]; decide) (by decide) ?_
      refine lv_iload hx hb dX0_given_112 (lv_at hl 2 rfl) ?_
      refine lv_iconst (v := 3) hx hb dX0_given_114 (by decide) ?_
      refine lv_icmp_ne (tgt := 136) hx hb dX0_given_115 (by decide) (fun c115 => ?_) (fun c115 => ?_)
      · have hf := o_in c115 hf
        refine lv_iconst (v := 0) hx hb dX0_given_136 (by decide) ?_
        obtain rfl := o_ret hf
        exact k_iret hx hb hr hP hD hS (Nat.zero_le _) (Nat.zero_le _) hlocks dX0_given_137
      · have hf := o_ip c115 hf
        refine lv_iload hx hb dX0_given_118 (lv_at hl 1 rfl) ?_
        refine lv_iload hx hb dX0_given_120 (lv_at hl 0 rfl) ?_
        refine lv_aload_n hx hb dX0_given_122 rfl (lv_at hl 3 rfl) ?_
        refine va_get (ci := 0) (v := .ref (q 11)) (C := RX0) (T := TX0) (N := 9) hx hb hts inlX0 hown hE.1 hP 10 rfl rfl 2 (by decide) (hts _ wB51) (fun _ h9 => h9) rfl dX0_given_123 ?_
        refine lv_iload_n hx hb dX0_given_126 rfl (lv_at hl 5 rfl) ?_
        obtain ⟨r127, h127r, hf⟩ := o_bs hf
        refine k_goi (va_runSN (As := [.ref (q 11), .int a2]) (rest := [.int r30, .int ((a1 - a1 / 3 * 3) + 1)]) ⟨hx, hb, hml, hown, hts⟩ (zX5_at l D cy sa (WX q cy u ++ rest) H.size 11 (q 11) 121 (gR u 7) a2 r127 rfl h127r) ⟨va_cnB 2 hts (gB_K wB112) rfl rfl rfl (hE.2.1.1 _ (List.mem_of_getElem? (i := 4) rfl)) (hts _ wB2) (by decide +kernel) ⟨Nat.le_of_ble_eq_true rfl, Nat.le_of_ble_eq_true rfl⟩, hts _ wB111, trivial⟩ ⟨kP.blind, k_pre hP hD hS hE hA⟩ rfl rfl hl.1 rfl (lv_room (Nat.le_of_ble_eq_true rfl)) dX0_given_127 ⟨Nat.zero_le _, Nat.zero_le _⟩) hD hS hA (fun H locs hP hD hS => ?_)
        obtain ⟨r130, h130r, hf⟩ := o_bs hf
        refine k_goi (va_runS (As := [.int ((a1 - a1 / 3 * 3) + 1), .int r30, .int r127]) (rest := []) ⟨hx, hb, hml, hown, hts⟩ (zX0_sharp l D cy sa (WX q cy u ++ rest) H.size ((a1 - a1 / 3 * 3) + 1) r30 r127  r130  h130r) (va_cwS 3 hts (gB_S wB338 wB339 wB20 wB340) rfl rfl rfl (by decide +kernel) ⟨Nat.le_of_ble_eq_true rfl, Nat.le_of_ble_eq_true rfl⟩) ⟨kP.blind, k_pre hP hD hS hE hA⟩ rfl rfl hl.1 rfl (lv_room (Nat.le_of_ble_eq_true rfl)) dX0_given_130 ⟨Nat.zero_le _, Nat.zero_le _⟩) hD hS hA (fun H locs hP hD hS => ?_)
        refine lv_goto (tgt := 137) hx hb dX0_given_133 (by decide) ?_
        obtain rfl := o_ret hf
        exact k_iret hx hb hr hP hD hS (Nat.zero_le _) (Nat.zero_le _) hlocks dX0_given_137
    have hf := o_in c36_2 hf
    refine lv_tableOut (tgt := 138) hx hb dX0_given_36 (by have t0 := lv_neT (a := 0) c36_0 rfl; have t1 := lv_neT (a := 1) c36_1 rfl; have t2 := lv_neT (a := 2) c36_2 rfl; omega) (by decide) ?_
    refine lv_iload hx hb dX0_given_138 (lv_at hl 2 rfl) ?_
    refine lv_iload hx hb dX0_given_140 (lv_at hl 1 rfl) ?_
    refine lv_iload hx hb dX0_given_142 (lv_at hl 0 rfl) ?_
    obtain ⟨r144, h144r, hf⟩ := o_bs hf
    refine k_goi (va_runS (As := [.int (a1 / 3), .int ((a1 - a1 / 3 * 3) + 1), .int r30]) (rest := []) ⟨hx, hb, hml, hown, hts⟩ (zX0_black l D cy sa (WX q cy u ++ rest) H.size (a1 / 3) ((a1 - a1 / 3 * 3) + 1) r30  r144  h144r) (va_cwS 3 hts (gB_S wB341 wB342 wB20 wB343) rfl rfl rfl (by decide +kernel) ⟨Nat.le_of_ble_eq_true rfl, Nat.le_of_ble_eq_true rfl⟩) ⟨kP.blind, k_pre hP hD hS hE hA⟩ rfl rfl hl.1 rfl (lv_room (Nat.le_of_ble_eq_true rfl)) dX0_given_144 ⟨Nat.zero_le _, Nat.zero_le _⟩) hD hS hA (fun H locs hP hD hS => ?_)
    obtain rfl := o_ret hf
    exact k_iret hx hb hr hP hD hS (Nat.zero_le _) (Nat.zero_le _) hlocks dX0_given_147
  · have hf := o_ip c8 hf
    refine lv_iconst (v := 0) hx hb dX0_given_11 (by decide) ?_
    obtain rfl := o_ret hf
    exact k_iret hx hb hr hP hD hS (Nat.zero_le _) (Nat.zero_le _) hlocks dX0_given_12
noncomputable def mX0_bring_s3 (c1 : Int32) (c2 : Int32) (s3 : Int32 × KS) : Option ((KS) ⊕ (Int32 × KS)) :=
  if 21 ≤ s3.1 then
  (some (.inl s3.2))
  else
  ((mX0_given s3.2 s3.1 c1 c2).bind fun r18 =>
  gd (inb s3.1 21) (some (.inr ((s3.1 + 1), (sR s3.2 11 (upd (gR s3.2 11) (s3.1.toNatClampNeg) r18))))))
noncomputable def mX0_bring (u : KS) (a1 : Int32) (a2 : Int32) : Option (KS) :=
  (lpF (mX0_bring_s3 a1 a2) (0, u)).bind fun e3 =>
  some e3
abbrev rmX0_bring : Room := { frames := 3, cells := 0, slots := 0, locals := 69 }
set_option maxRecDepth 100000 in
set_option maxHeartbeats 4000000 in
theorem zX0_bring (l : Launch) (D : va_G) (cy : Nat → ClassId) (sa : Nat → Nat) (q : Nat → Nat) (rest : va_W) (sz : Nat) (u : KS) (a1 : Int32) (a2 : Int32) (res : KS) (hf : mX0_bring u a1 a2 = some res) : kMv l yX0_bring (wsK yX0_bring cX0_bring 5 none) rmX0_bring D cy sa (WX q cy u ++ rest) sz [.ref (q 10), .int a1, .int a2, .ref (q 16)] (WX q cy res ++ rest) 0 0 := by
  refine kM_of (Qc := fun A => kQv D A (WX q cy res ++ rest)) (cc := cX0_bring) (maxL := 5) (ret := none) (by decide) (Nat.le_of_ble_eq_true rfl) ?_
  intro p e s m below meth c A hx hb hml hr hts hown hlocks hin hA hP hD hS hE hsz ls hl
  have hown : s.vm.findClass RX0 = some m.cls := hown
  obtain ⟨H, hH0⟩ : ∃ H, H = s.heap := ⟨_, rfl⟩
  obtain ⟨locs, hlocs0⟩ : ∃ locs : List Loc, locs = [] := ⟨_, rfl⟩
  have hP : va_P D vwCl (WX q cy u ++ rest) H := by rw [hH0]; exact hP
  have hS : va_S A s.heap H locs := by rw [hH0, hlocs0]; exact hS
  have hl : lv_has ls 5 [(0, .ref (q 10)), (1, .int a1), (2, .int a2), (3, .ref (q 16))] := hl
  suffices hgoal : W p l e rmX0_bring s m ([.ref (q 10), .int a1, .int a2, .ref (q 16)] : List Value).toArray below meth c H locs 0 0 (MQ below (kQv D A (WX q cy res ++ rest)) ([.ref (q 10), .int a1, .int a2, .ref (q 16)] : List Value).toArray s 0 0 A) (F0 m 0 ls []) by rw [hH0, hlocs0] at hgoal; exact hgoal
  clear hH0 hlocs0
  unfold mX0_bring at hf
  refine lv_iconst (v := 0) hx hb dX0_bring_0 (by decide) ?_
  refine lv_istore (lv' := [(4, .int 0), (0, .ref (q 10)), (1, .int a1), (2, .int a2), (3, .ref (q 16))]) hx hb dX0_bring_1 hl (by decide) rfl (fun ls hl => ?_)
  have L3 : ∀ (n3v : Nat) (s3 : Int32 × KS) (e3 : KS), lpO (mX0_bring_s3 a1 a2) n3v s3 = some e3 → ∀ (H : Heap) (locs : List Loc) (ls : Array Slot), va_P D vwCl (WX q cy s3.2 ++ rest) H → va_D A (WX q cy s3.2 ++ rest) → va_S A s.heap H locs → lv_has ls 5 [(0, .ref (q 10)), (1, .int a1), (2, .int a2), (3, .ref (q 16)), (4, .int s3.1)] → (∀ (H : Heap) (locs : List Loc) (ls : Array Slot), va_P D vwCl (WX q cy e3 ++ rest) H → va_D A (WX q cy e3 ++ rest) → va_S A s.heap H locs → lv_has ls 5 [] → W p l e rmX0_bring s m ([.ref (q 10), .int a1, .int a2, .ref (q 16)] : List Value).toArray below meth c H locs 0 0 (MQ below (kQv D A (WX q cy res ++ rest)) ([.ref (q 10), .int a1, .int a2, .ref (q 16)] : List Value).toArray s 0 0 A) (F0 m 28 ls [])) → W p l e rmX0_bring s m ([.ref (q 10), .int a1, .int a2, .ref (q 16)] : List Value).toArray below meth c H locs 0 0 (MQ below (kQv D A (WX q cy res ++ rest)) ([.ref (q 10), .int a1, .int a2, .ref (q 16)] : List Value).toArray s 0 0 A) (F0 m 3 ls []) := by
    intro n3v
    induction n3v with
    | zero => intro s3 e3 h; exact (lpO_z h).elim
    | succ n3v ih3 =>
      intro s3 e3 h3z H locs ls hP hD hS hl K3_0
      obtain ⟨x3, hf, h3z⟩ := lpO_s h3z
      unfold mX0_bring_s3 at hf
      refine lv_iload hx hb dX0_bring_3 (lv_at hl 4 rfl) ?_
      refine lv_aload_n hx hb dX0_bring_5 rfl (lv_at hl 3 rfl) ?_
      refine va_alen (v := 21) hx hb hE.1 hP 16 0 rfl rfl rfl dX0_bring_6 ?_
      refine lv_icmp_ge (tgt := 28) hx hb dX0_bring_7 (by decide) (fun c7 => ?_) (fun c7 => ?_)
      · have hf := o_ip c7 hf
        obtain rfl := o_ret hf
        obtain rfl := lpK_l h3z
        exact K3_0 _ _ _ hP hD hS (lv_sub hl [] rfl)
      · have hf := o_in c7 hf
        refine lv_aload_n hx hb dX0_bring_10 rfl (lv_at hl 3 rfl) ?_
        refine lv_iload hx hb dX0_bring_11 (lv_at hl 4 rfl) ?_
        refine lv_aload_n hx hb dX0_bring_13 rfl (lv_at hl 0 rfl) ?_
        refine lv_iload hx hb dX0_bring_14 (lv_at hl 4 rfl) ?_
        refine lv_iload_n hx hb dX0_bring_16 rfl (lv_at hl 1 rfl) ?_
        refine lv_iload_n hx hb dX0_bring_17 rfl (lv_at hl 2 rfl) ?_
        obtain ⟨r18, h18r, hf⟩ := o_bs hf
        refine k_goi (va_runV (As := [.int s3.1, .int a1, .int a2]) (rest := [.int s3.1, .ref (q 16)]) ⟨hx, hb, hml, hown, hts⟩ (zX0_given l D cy sa q rest H.size s3.2 s3.1 a1 a2 r18 h18r) (cwV 3 hts (gB_V wB388 wB326 wB327 wB20 wB328) rfl rfl rfl (by decide +kernel) ⟨Nat.le_of_ble_eq_true rfl, Nat.le_of_ble_eq_true rfl⟩) ⟨kP.blind, k_recv hE hP (ci := 0) (q0 := 10) rfl rfl, k_pre hP hD hS hE hA⟩ rfl rfl hl.1 rfl (lv_room (Nat.le_of_ble_eq_true rfl)) dX0_bring_18 ⟨Nat.zero_le _, Nat.zero_le _⟩) hD hS hA (fun H locs hP hD hS => ?_)
        obtain ⟨hg21, hf⟩ := gd_s hf
        refine va_iast (f := (gR s3.2 11)) hx hb hE.1 hP hD hS 16 0 rfl rfl hg21 dX0_bring_21 (fun H locs hP hD hS => ?_)
        have hP : va_P D vwCl (WX q cy (sR s3.2 11 (upd (gR s3.2 11) (s3.1.toNatClampNeg) r18)) ++ rest) H := hP
        have hD : va_D A (WX q cy (sR s3.2 11 (upd (gR s3.2 11) (s3.1.toNatClampNeg) r18)) ++ rest) := hD
        refine lv_iinc (v := (s3.1 + 1)) (lv' := [(4, .int (s3.1 + 1)), (0, .ref (q 10)), (1, .int a1), (2, .int a2), (3, .ref (q 16))]) hx hb dX0_bring_22 hl (k := 4) rfl (by rfl) (by decide) rfl (fun ls hl => ?_)
        refine lv_goto (tgt := 3) hx hb dX0_bring_25 (by decide) ?_
        obtain rfl := o_ret hf
        exact ih3 _ _ (lpK_r h3z) _ _ _ hP hD hS (lv_sub hl [1, 2, 3, 4, 0] rfl) K3_0
  obtain ⟨e3, h3q, hf⟩ := o_bs hf
  obtain ⟨n3v, h3q⟩ := lpF_ex h3q
  refine L3 n3v _ e3 h3q _ _ _ hP hD hS (lv_sub hl [1, 2, 3, 4, 0] rfl) ?_
  intro H locs ls hP hD hS hl
  obtain rfl := o_ret hf
  exact k_vret hx hb hr hP hD hS (Nat.zero_le _) (Nat.zero_le _) hlocks dX0_bring_28
noncomputable def mX0_bringBurnt_s13 (u : KS) (c2 : Int32) (s13 : Int32 × Int32) : Option ((Int32) ⊕ (Int32 × Int32)) :=
  if (gI u 6) ≤ s13.2 then
  (some (.inl s13.1))
  else
  ((mX0_given u c2 s13.2 0).bind fun r28 =>
  some (.inr ((s13.1 + r28), (s13.2 + 1))))
noncomputable def mX0_bringBurnt_s2  (s2 : Int32 × KS) : Option ((KS) ⊕ (Int32 × KS)) :=
  if 21 ≤ s2.1 then
  (some (.inl s2.2))
  else
  ((lpF (mX0_bringBurnt_s13 s2.2 s2.1) (0, 0)).bind fun e13 =>
  gd (inb s2.1 21) (some (.inr ((s2.1 + 1), (sR s2.2 11 (upd (gR s2.2 11) (s2.1.toNatClampNeg) e13))))))
noncomputable def mX0_bringBurnt (u : KS) : Option (KS) :=
  (lpF mX0_bringBurnt_s2 (0, u)).bind fun e2 =>
  some e2
abbrev rmX0_bringBurnt : Room := { frames := 3, cells := 0, slots := 0, locals := 69 }
set_option maxRecDepth 100000 in
set_option maxHeartbeats 4000000 in
theorem zX0_bringBurnt (l : Launch) (D : va_G) (cy : Nat → ClassId) (sa : Nat → Nat) (q : Nat → Nat) (rest : va_W) (sz : Nat) (u : KS) (res : KS) (hf : mX0_bringBurnt u = some res) : kMv l yX0_bringBurnt (wsK yX0_bringBurnt cX0_bringBurnt 5 none) rmX0_bringBurnt D cy sa (WX q cy u ++ rest) sz [.ref (q 10), .ref (q 16)] (WX q cy res ++ rest) 0 0 := by
  refine kM_of (Qc := fun A => kQv D A (WX q cy res ++ rest)) (cc := cX0_bringBurnt) (maxL := 5) (ret := none) (by decide) (Nat.le_of_ble_eq_true rfl) ?_
  intro p e s m below meth c A hx hb hml hr hts hown hlocks hin hA hP hD hS hE hsz ls hl
  have hown : s.vm.findClass RX0 = some m.cls := hown
  obtain ⟨H, hH0⟩ : ∃ H, H = s.heap := ⟨_, rfl⟩
  obtain ⟨locs, hlocs0⟩ : ∃ locs : List Loc, locs = [] := ⟨_, rfl⟩
  have hP : va_P D vwCl (WX q cy u ++ rest) H := by rw [hH0]; exact hP
  have hS : va_S A s.heap H locs := by rw [hH0, hlocs0]; exact hS
  have hl : lv_has ls 5 [(0, .ref (q 10)), (1, .ref (q 16))] := hl
  suffices hgoal : W p l e rmX0_bringBurnt s m ([.ref (q 10), .ref (q 16)] : List Value).toArray below meth c H locs 0 0 (MQ below (kQv D A (WX q cy res ++ rest)) ([.ref (q 10), .ref (q 16)] : List Value).toArray s 0 0 A) (F0 m 0 ls []) by rw [hH0, hlocs0] at hgoal; exact hgoal
  clear hH0 hlocs0
  unfold mX0_bringBurnt at hf
  refine lv_iconst (v := 0) hx hb dX0_bringBurnt_0 (by decide) ?_
  refine lv_istore_n (lv' := [(2, .int 0), (0, .ref (q 10)), (1, .ref (q 16))]) hx hb dX0_bringBurnt_1 rfl hl (by decide) rfl (fun ls hl => ?_)
  have L2 : ∀ (n2v : Nat) (s2 : Int32 × KS) (e2 : KS), lpO mX0_bringBurnt_s2 n2v s2 = some e2 → ∀ (H : Heap) (locs : List Loc) (ls : Array Slot), va_P D vwCl (WX q cy s2.2 ++ rest) H → va_D A (WX q cy s2.2 ++ rest) → va_S A s.heap H locs → lv_has ls 5 [(0, .ref (q 10)), (1, .ref (q 16)), (2, .int s2.1)] → (∀ (H : Heap) (locs : List Loc) (ls : Array Slot), va_P D vwCl (WX q cy e2 ++ rest) H → va_D A (WX q cy e2 ++ rest) → va_S A s.heap H locs → lv_has ls 5 [] → W p l e rmX0_bringBurnt s m ([.ref (q 10), .ref (q 16)] : List Value).toArray below meth c H locs 0 0 (MQ below (kQv D A (WX q cy res ++ rest)) ([.ref (q 10), .ref (q 16)] : List Value).toArray s 0 0 A) (F0 m 49 ls [])) → W p l e rmX0_bringBurnt s m ([.ref (q 10), .ref (q 16)] : List Value).toArray below meth c H locs 0 0 (MQ below (kQv D A (WX q cy res ++ rest)) ([.ref (q 10), .ref (q 16)] : List Value).toArray s 0 0 A) (F0 m 2 ls []) := by
    intro n2v
    induction n2v with
    | zero => intro s2 e2 h; exact (lpO_z h).elim
    | succ n2v ih2 =>
      intro s2 e2 h2z H locs ls hP hD hS hl K2_0
      obtain ⟨x2, hf, h2z⟩ := lpO_s h2z
      unfold mX0_bringBurnt_s2 at hf
      refine lv_iload_n hx hb dX0_bringBurnt_2 rfl (lv_at hl 2 rfl) ?_
      refine lv_aload_n hx hb dX0_bringBurnt_3 rfl (lv_at hl 1 rfl) ?_
      refine va_alen (v := 21) hx hb hE.1 hP 16 0 rfl rfl rfl dX0_bringBurnt_4 ?_
      refine lv_icmp_ge (tgt := 49) hx hb dX0_bringBurnt_5 (by decide) (fun c5 => ?_) (fun c5 => ?_)
      · have hf := o_ip c5 hf
        obtain rfl := o_ret hf
        obtain rfl := lpK_l h2z
        exact K2_0 _ _ _ hP hD hS (lv_sub hl [] rfl)
      · have hf := o_in c5 hf
        refine lv_iconst (v := 0) hx hb dX0_bringBurnt_8 (by decide) ?_
        refine lv_istore_n (lv' := [(3, .int 0), (0, .ref (q 10)), (1, .ref (q 16)), (2, .int s2.1)]) hx hb dX0_bringBurnt_9 rfl hl (by decide) rfl (fun ls hl => ?_)
        refine lv_iconst (v := 0) hx hb dX0_bringBurnt_10 (by decide) ?_
        refine lv_istore (lv' := [(4, .int 0), (3, .int 0), (0, .ref (q 10)), (1, .ref (q 16)), (2, .int s2.1)]) hx hb dX0_bringBurnt_11 hl (by decide) rfl (fun ls hl => ?_)
        have L13 : ∀ (n13v : Nat) (s13 : Int32 × Int32) (e13 : Int32), lpO (mX0_bringBurnt_s13 s2.2 s2.1) n13v s13 = some e13 → ∀ (H : Heap) (locs : List Loc) (ls : Array Slot), va_P D vwCl (WX q cy s2.2 ++ rest) H → va_D A (WX q cy s2.2 ++ rest) → va_S A s.heap H locs → lv_has ls 5 [(0, .ref (q 10)), (1, .ref (q 16)), (2, .int s2.1), (3, .int s13.1), (4, .int s13.2)] → (∀ (H : Heap) (locs : List Loc) (ls : Array Slot), va_P D vwCl (WX q cy s2.2 ++ rest) H → va_D A (WX q cy s2.2 ++ rest) → va_S A s.heap H locs → lv_has ls 5 [(0, .ref (q 10)), (1, .ref (q 16)), (2, .int s2.1), (3, .int e13)] → W p l e rmX0_bringBurnt s m ([.ref (q 10), .ref (q 16)] : List Value).toArray below meth c H locs 0 0 (MQ below (kQv D A (WX q cy res ++ rest)) ([.ref (q 10), .ref (q 16)] : List Value).toArray s 0 0 A) (F0 m 39 ls [])) → W p l e rmX0_bringBurnt s m ([.ref (q 10), .ref (q 16)] : List Value).toArray below meth c H locs 0 0 (MQ below (kQv D A (WX q cy res ++ rest)) ([.ref (q 10), .ref (q 16)] : List Value).toArray s 0 0 A) (F0 m 13 ls []) := by
          intro n13v
          induction n13v with
          | zero => intro s13 e13 h; exact (lpO_z h).elim
          | succ n13v ih13 =>
            intro s13 e13 h13z H locs ls hP hD hS hl K13_0
            obtain ⟨x13, hf, h13z⟩ := lpO_s h13z
            unfold mX0_bringBurnt_s13 at hf
            refine lv_iload hx hb dX0_bringBurnt_13 (lv_at hl 4 rfl) ?_
            refine lv_aload_n hx hb dX0_bringBurnt_15 rfl (lv_at hl 0 rfl) ?_
            refine va_get (ci := 0) (v := .int (gI s2.2 6)) (C := RX0) (T := TX0) (N := 9) hx hb hts inlX0 hown hE.1 hP 10 rfl rfl 1 (by decide) (hts _ wB155) (fun _ h9 => h9) rfl dX0_bringBurnt_16 ?_
            refine lv_icmp_ge (tgt := 39) hx hb dX0_bringBurnt_19 (by decide) (fun c19 => ?_) (fun c19 => ?_)
            · have hf := o_ip c19 hf
              obtain rfl := o_ret hf
              obtain rfl := lpK_l h13z
              exact K13_0 _ _ _ hP hD hS (lv_sub hl [0, 1, 2, 3] rfl)
            · have hf := o_in c19 hf
              refine lv_iload_n hx hb dX0_bringBurnt_22 rfl (lv_at hl 3 rfl) ?_
              refine lv_aload_n hx hb dX0_bringBurnt_23 rfl (lv_at hl 0 rfl) ?_
              refine lv_iload_n hx hb dX0_bringBurnt_24 rfl (lv_at hl 2 rfl) ?_
              refine lv_iload hx hb dX0_bringBurnt_25 (lv_at hl 4 rfl) ?_
              refine lv_iconst (v := 0) hx hb dX0_bringBurnt_27 (by decide) ?_
              obtain ⟨r28, h28r, hf⟩ := o_bs hf
              refine k_goi (va_runV (As := [.int s2.1, .int s13.2, .int 0]) (rest := [.int s13.1]) ⟨hx, hb, hml, hown, hts⟩ (zX0_given l D cy sa q rest H.size s2.2 s2.1 s13.2 0 r28 h28r) (cwV 3 hts (gB_V wB388 wB326 wB327 wB20 wB328) rfl rfl rfl (by decide +kernel) ⟨Nat.le_of_ble_eq_true rfl, Nat.le_of_ble_eq_true rfl⟩) ⟨kP.blind, k_recv hE hP (ci := 0) (q0 := 10) rfl rfl, k_pre hP hD hS hE hA⟩ rfl rfl hl.1 rfl (lv_room (Nat.le_of_ble_eq_true rfl)) dX0_bringBurnt_28 ⟨Nat.zero_le _, Nat.zero_le _⟩) hD hS hA (fun H locs hP hD hS => ?_)
              refine lv_iadd hx hb dX0_bringBurnt_31 ?_
              refine lv_istore_n (lv' := [(3, .int (s13.1 + r28)), (0, .ref (q 10)), (1, .ref (q 16)), (2, .int s2.1), (4, .int s13.2)]) hx hb dX0_bringBurnt_32 rfl hl (by decide) rfl (fun ls hl => ?_)
              refine lv_iinc (v := (s13.2 + 1)) (lv' := [(4, .int (s13.2 + 1)), (3, .int (s13.1 + r28)), (0, .ref (q 10)), (1, .ref (q 16)), (2, .int s2.1)]) hx hb dX0_bringBurnt_33 hl (k := 4) rfl (by rfl) (by decide) rfl (fun ls hl => ?_)
              refine lv_goto (tgt := 13) hx hb dX0_bringBurnt_36 (by decide) ?_
              obtain rfl := o_ret hf
              exact ih13 _ _ (lpK_r h13z) _ _ _ hP hD hS (lv_sub hl [2, 3, 4, 1, 0] rfl) K13_0
        obtain ⟨e13, h13q, hf⟩ := o_bs hf
        obtain ⟨n13v, h13q⟩ := lpF_ex h13q
        refine L13 n13v _ e13 h13q _ _ _ hP hD hS (lv_sub hl [2, 3, 4, 1, 0] rfl) ?_
        intro H locs ls hP hD hS hl
        refine lv_aload_n hx hb dX0_bringBurnt_39 rfl (lv_at hl 1 rfl) ?_
        refine lv_iload_n hx hb dX0_bringBurnt_40 rfl (lv_at hl 2 rfl) ?_
        refine lv_iload_n hx hb dX0_bringBurnt_41 rfl (lv_at hl 3 rfl) ?_
        obtain ⟨hg42, hf⟩ := gd_s hf
        refine va_iast (f := (gR s2.2 11)) hx hb hE.1 hP hD hS 16 0 rfl rfl hg42 dX0_bringBurnt_42 (fun H locs hP hD hS => ?_)
        have hP : va_P D vwCl (WX q cy (sR s2.2 11 (upd (gR s2.2 11) (s2.1.toNatClampNeg) e13)) ++ rest) H := hP
        have hD : va_D A (WX q cy (sR s2.2 11 (upd (gR s2.2 11) (s2.1.toNatClampNeg) e13)) ++ rest) := hD
        refine lv_iinc (v := (s2.1 + 1)) (lv' := [(2, .int (s2.1 + 1)), (0, .ref (q 10)), (1, .ref (q 16)), (3, .int e13)]) hx hb dX0_bringBurnt_43 hl (k := 2) rfl (by rfl) (by decide) rfl (fun ls hl => ?_)
        refine lv_goto (tgt := 2) hx hb dX0_bringBurnt_46 (by decide) ?_
        obtain rfl := o_ret hf
        exact ih2 _ _ (lpK_r h2z) _ _ _ hP hD hS (lv_sub hl [1, 2, 0] rfl) K2_0
  obtain ⟨e2, h2q, hf⟩ := o_bs hf
  obtain ⟨n2v, h2q⟩ := lpF_ex h2q
  refine L2 n2v _ e2 h2q _ _ _ hP hD hS (lv_sub hl [1, 2, 0] rfl) ?_
  intro H locs ls hP hD hS hl
  obtain rfl := o_ret hf
  exact k_vret hx hb hr hP hD hS (Nat.zero_le _) (Nat.zero_le _) hlocks dX0_bringBurnt_49
noncomputable def mX0_givesNothing_s12 (u : KS) (c1 : Int32) (c2 : Int32) (s12 : Int32) : Option ((Unit ⊕ Unit) ⊕ (Int32)) :=
  if 4 ≤ s12 then
  (some (.inl (.inl ())))
  else
  ((mX0_given u c1 c2 s12).bind fun r21 =>
  if r21 ≤ 0 then
  (some (.inr (s12 + 1)))
  else
  (some (.inl (.inr ()))))
noncomputable def mX0_givesNothing_s2 (u : KS) (c1 : Int32) (s2 : Int32) : Option ((Unit ⊕ Unit) ⊕ (Int32)) :=
  if (gI u 6) ≤ s2 then
  (some (.inl (.inl ())))
  else
  ((lpF (mX0_givesNothing_s12 u c1 s2) 0).bind (oE (fun e12_0 => some (.inr (s2 + 1))) (fun e12_1 => some (.inl (.inr ())))))
noncomputable def mX0_givesNothing (u : KS) (a1 : Int32) : Option (Int32) :=
  (lpF (mX0_givesNothing_s2 u a1) 0).bind (oE (fun e2_0 => some 1) (fun e2_1 => some 0))
abbrev rmX0_givesNothing : Room := { frames := 3, cells := 0, slots := 0, locals := 69 }
set_option maxRecDepth 100000 in
set_option maxHeartbeats 4000000 in
theorem zX0_givesNothing (l : Launch) (D : va_G) (cy : Nat → ClassId) (sa : Nat → Nat) (q : Nat → Nat) (rest : va_W) (sz : Nat) (u : KS) (a1 : Int32) (res : Int32) (hf : mX0_givesNothing u a1 = some res) : kMi l yX0_givesNothing (wsK yX0_givesNothing cX0_givesNothing 4 (some .boolean)) rmX0_givesNothing D cy sa (WX q cy u ++ rest) sz [.ref (q 10), .int a1] res (WX q cy u ++ rest) 0 0 := by
  refine kM_of (Qc := fun A => kQi D A res (WX q cy u ++ rest)) (cc := cX0_givesNothing) (maxL := 4) (ret := (some .boolean)) (by decide) (Nat.le_of_ble_eq_true rfl) ?_
  intro p e s m below meth c A hx hb hml hr hts hown hlocks hin hA hP hD hS hE hsz ls hl
  have hown : s.vm.findClass RX0 = some m.cls := hown
  obtain ⟨H, hH0⟩ : ∃ H, H = s.heap := ⟨_, rfl⟩
  obtain ⟨locs, hlocs0⟩ : ∃ locs : List Loc, locs = [] := ⟨_, rfl⟩
  have hP : va_P D vwCl (WX q cy u ++ rest) H := by rw [hH0]; exact hP
  have hS : va_S A s.heap H locs := by rw [hH0, hlocs0]; exact hS
  have hl : lv_has ls 4 [(0, .ref (q 10)), (1, .int a1)] := hl
  suffices hgoal : W p l e rmX0_givesNothing s m ([.ref (q 10), .int a1] : List Value).toArray below meth c H locs 0 0 (MQ below (kQi D A res (WX q cy u ++ rest)) ([.ref (q 10), .int a1] : List Value).toArray s 0 0 A) (F0 m 0 ls []) by rw [hH0, hlocs0] at hgoal; exact hgoal
  clear hH0 hlocs0
  unfold mX0_givesNothing at hf
  refine lv_iconst (v := 0) hx hb dX0_givesNothing_0 (by decide) ?_
  refine lv_istore_n (lv' := [(2, .int 0), (0, .ref (q 10)), (1, .int a1)]) hx hb dX0_givesNothing_1 rfl hl (by decide) rfl (fun ls hl => ?_)
  have L2 : ∀ (n2v : Nat) (s2 : Int32) (e2 : Unit ⊕ Unit), lpO (mX0_givesNothing_s2 u a1) n2v s2 = some e2 → ∀ (H : Heap) (locs : List Loc) (ls : Array Slot), va_P D vwCl (WX q cy u ++ rest) H → va_D A (WX q cy u ++ rest) → va_S A s.heap H locs → lv_has ls 4 [(0, .ref (q 10)), (1, .int a1), (2, .int s2)] → (∀ e2_0 : Unit, e2 = (.inl e2_0) → ∀ (H : Heap) (locs : List Loc) (ls : Array Slot), va_P D vwCl (WX q cy u ++ rest) H → va_D A (WX q cy u ++ rest) → va_S A s.heap H locs → lv_has ls 4 [] → W p l e rmX0_givesNothing s m ([.ref (q 10), .int a1] : List Value).toArray below meth c H locs 0 0 (MQ below (kQi D A res (WX q cy u ++ rest)) ([.ref (q 10), .int a1] : List Value).toArray s 0 0 A) (F0 m 41 ls [])) → (∀ e2_1 : Unit, e2 = (.inr e2_1) → ∀ (H : Heap) (locs : List Loc) (ls : Array Slot), va_P D vwCl (WX q cy u ++ rest) H → va_D A (WX q cy u ++ rest) → va_S A s.heap H locs → lv_has ls 4 [] → W p l e rmX0_givesNothing s m ([.ref (q 10), .int a1] : List Value).toArray below meth c H locs 0 0 (MQ below (kQi D A res (WX q cy u ++ rest)) ([.ref (q 10), .int a1] : List Value).toArray s 0 0 A) (F0 m 27 ls [])) → W p l e rmX0_givesNothing s m ([.ref (q 10), .int a1] : List Value).toArray below meth c H locs 0 0 (MQ below (kQi D A res (WX q cy u ++ rest)) ([.ref (q 10), .int a1] : List Value).toArray s 0 0 A) (F0 m 2 ls []) := by
    intro n2v
    induction n2v with
    | zero => intro s2 e2 h; exact (lpO_z h).elim
    | succ n2v ih2 =>
      intro s2 e2 h2z H locs ls hP hD hS hl K2_0 K2_1
      obtain ⟨x2, hf, h2z⟩ := lpO_s h2z
      unfold mX0_givesNothing_s2 at hf
      refine lv_iload_n hx hb dX0_givesNothing_2 rfl (lv_at hl 2 rfl) ?_
      refine lv_aload_n hx hb dX0_givesNothing_3 rfl (lv_at hl 0 rfl) ?_
      refine va_get (ci := 0) (v := .int (gI u 6)) (C := RX0) (T := TX0) (N := 9) hx hb hts inlX0 hown hE.1 hP 10 rfl rfl 1 (by decide) (hts _ wB155) (fun _ h9 => h9) rfl dX0_givesNothing_4 ?_
      refine lv_icmp_ge (tgt := 41) hx hb dX0_givesNothing_7 (by decide) (fun c7 => ?_) (fun c7 => ?_)
      · have hf := o_ip c7 hf
        obtain rfl := o_ret hf
        obtain rfl := lpK_l h2z
        exact K2_0 _ rfl _ _ _ hP hD hS (lv_sub hl [] rfl)
      · have hf := o_in c7 hf
        refine lv_iconst (v := 0) hx hb dX0_givesNothing_10 (by decide) ?_
        refine lv_istore_n (lv' := [(3, .int 0), (0, .ref (q 10)), (1, .int a1), (2, .int s2)]) hx hb dX0_givesNothing_11 rfl hl (by decide) rfl (fun ls hl => ?_)
        have L12 : ∀ (n12v : Nat) (s12 : Int32) (e12 : Unit ⊕ Unit), lpO (mX0_givesNothing_s12 u a1 s2) n12v s12 = some e12 → ∀ (H : Heap) (locs : List Loc) (ls : Array Slot), va_P D vwCl (WX q cy u ++ rest) H → va_D A (WX q cy u ++ rest) → va_S A s.heap H locs → lv_has ls 4 [(0, .ref (q 10)), (1, .int a1), (2, .int s2), (3, .int s12)] → (∀ e12_0 : Unit, e12 = (.inl e12_0) → ∀ (H : Heap) (locs : List Loc) (ls : Array Slot), va_P D vwCl (WX q cy u ++ rest) H → va_D A (WX q cy u ++ rest) → va_S A s.heap H locs → lv_has ls 4 [(0, .ref (q 10)), (1, .int a1), (2, .int s2)] → W p l e rmX0_givesNothing s m ([.ref (q 10), .int a1] : List Value).toArray below meth c H locs 0 0 (MQ below (kQi D A res (WX q cy u ++ rest)) ([.ref (q 10), .int a1] : List Value).toArray s 0 0 A) (F0 m 35 ls [])) → (∀ e12_1 : Unit, e12 = (.inr e12_1) → ∀ (H : Heap) (locs : List Loc) (ls : Array Slot), va_P D vwCl (WX q cy u ++ rest) H → va_D A (WX q cy u ++ rest) → va_S A s.heap H locs → lv_has ls 4 [] → W p l e rmX0_givesNothing s m ([.ref (q 10), .int a1] : List Value).toArray below meth c H locs 0 0 (MQ below (kQi D A res (WX q cy u ++ rest)) ([.ref (q 10), .int a1] : List Value).toArray s 0 0 A) (F0 m 27 ls [])) → W p l e rmX0_givesNothing s m ([.ref (q 10), .int a1] : List Value).toArray below meth c H locs 0 0 (MQ below (kQi D A res (WX q cy u ++ rest)) ([.ref (q 10), .int a1] : List Value).toArray s 0 0 A) (F0 m 12 ls []) := by
          intro n12v
          induction n12v with
          | zero => intro s12 e12 h; exact (lpO_z h).elim
          | succ n12v ih12 =>
            intro s12 e12 h12z H locs ls hP hD hS hl K12_0 K12_1
            obtain ⟨x12, hf, h12z⟩ := lpO_s h12z
            unfold mX0_givesNothing_s12 at hf
            refine lv_iload_n hx hb dX0_givesNothing_12 rfl (lv_at hl 3 rfl) ?_
            refine lv_iconst (v := 4) hx hb dX0_givesNothing_13 (by decide) ?_
            refine lv_icmp_ge (tgt := 35) hx hb dX0_givesNothing_14 (by decide) (fun c14 => ?_) (fun c14 => ?_)
            · have hf := o_ip c14 hf
              obtain rfl := o_ret hf
              obtain rfl := lpK_l h12z
              exact K12_0 _ rfl _ _ _ hP hD hS (lv_sub hl [0, 1, 2] rfl)
            · have hf := o_in c14 hf
              refine lv_aload_n hx hb dX0_givesNothing_17 rfl (lv_at hl 0 rfl) ?_
              refine lv_iload_n hx hb dX0_givesNothing_18 rfl (lv_at hl 1 rfl) ?_
              refine lv_iload_n hx hb dX0_givesNothing_19 rfl (lv_at hl 2 rfl) ?_
              refine lv_iload_n hx hb dX0_givesNothing_20 rfl (lv_at hl 3 rfl) ?_
              obtain ⟨r21, h21r, hf⟩ := o_bs hf
              refine k_goi (va_runV (As := [.int a1, .int s2, .int s12]) (rest := []) ⟨hx, hb, hml, hown, hts⟩ (zX0_given l D cy sa q rest H.size u a1 s2 s12 r21 h21r) (cwV 3 hts (gB_V wB388 wB326 wB327 wB20 wB328) rfl rfl rfl (by decide +kernel) ⟨Nat.le_of_ble_eq_true rfl, Nat.le_of_ble_eq_true rfl⟩) ⟨kP.blind, k_recv hE hP (ci := 0) (q0 := 10) rfl rfl, k_pre hP hD hS hE hA⟩ rfl rfl hl.1 rfl (lv_room (Nat.le_of_ble_eq_true rfl)) dX0_givesNothing_21 ⟨Nat.zero_le _, Nat.zero_le _⟩) hD hS hA (fun H locs hP hD hS => ?_)
              refine lv_if_le (tgt := 29) hx hb dX0_givesNothing_24 (by decide) (fun c24 => ?_) (fun c24 => ?_)
              · have hf := o_ip c24 hf
                refine lv_iinc (v := (s12 + 1)) (lv' := [(3, .int (s12 + 1)), (0, .ref (q 10)), (1, .int a1), (2, .int s2)]) hx hb dX0_givesNothing_29 hl (k := 3) rfl (by rfl) (by decide) rfl (fun ls hl => ?_)
                refine lv_goto (tgt := 12) hx hb dX0_givesNothing_32 (by decide) ?_
                obtain rfl := o_ret hf
                exact ih12 _ _ (lpK_r h12z) _ _ _ hP hD hS (lv_sub hl [1, 2, 3, 0] rfl) K12_0 K12_1
              · have hf := o_in c24 hf
                obtain rfl := o_ret hf
                obtain rfl := lpK_l h12z
                exact K12_1 _ rfl _ _ _ hP hD hS (lv_sub hl [] rfl)
        obtain ⟨e12, h12q, hf⟩ := o_bs hf
        obtain ⟨n12v, h12q⟩ := lpF_ex h12q
        refine L12 n12v _ e12 h12q _ _ _ hP hD hS (lv_sub hl [1, 2, 3, 0] rfl) ?_ ?_
        · intro e12_0 ez12 H locs ls hP hD hS hl
          subst ez12
          have hf := oE_l hf
          refine lv_iinc (v := (s2 + 1)) (lv' := [(2, .int (s2 + 1)), (0, .ref (q 10)), (1, .int a1)]) hx hb dX0_givesNothing_35 hl (k := 2) rfl (by rfl) (by decide) rfl (fun ls hl => ?_)
          refine lv_goto (tgt := 2) hx hb dX0_givesNothing_38 (by decide) ?_
          obtain rfl := o_ret hf
          exact ih2 _ _ (lpK_r h2z) _ _ _ hP hD hS (lv_sub hl [1, 2, 0] rfl) K2_0 K2_1
        · intro e12_1 ez12 H locs ls hP hD hS hl
          subst ez12
          have hf := oE_r hf
          obtain rfl := o_ret hf
          obtain rfl := lpK_l h2z
          exact K2_1 _ rfl _ _ _ hP hD hS (lv_sub hl [] rfl)
  obtain ⟨e2, h2q, hf⟩ := o_bs hf
  obtain ⟨n2v, h2q⟩ := lpF_ex h2q
  refine L2 n2v _ e2 h2q _ _ _ hP hD hS (lv_sub hl [1, 2, 0] rfl) ?_ ?_
  · intro e2_0 ez2 H locs ls hP hD hS hl
    subst ez2
    have hf := oE_l hf
    refine lv_iconst (v := 1) hx hb dX0_givesNothing_41 (by decide) ?_
    obtain rfl := o_ret hf
    exact k_zret (v := 1) hx hb hr hP hD hS rfl (Nat.zero_le _) (Nat.zero_le _) hlocks dX0_givesNothing_42
  · intro e2_1 ez2 H locs ls hP hD hS hl
    subst ez2
    have hf := oE_r hf
    refine lv_iconst (v := 0) hx hb dX0_givesNothing_27 (by decide) ?_
    obtain rfl := o_ret hf
    exact k_zret (v := 0) hx hb hr hP hD hS rfl (Nat.zero_le _) (Nat.zero_le _) hlocks dX0_givesNothing_28
noncomputable def mX0_has (u : KS) (a1 : Int32) : Option (Int32) :=
  if a1 < 0 then
  (some 0)
  else
  (if (gI u 6) ≤ a1 then
  (some 0)
  else
  (some 1))
abbrev rmX0_has : Room := { frames := 0, cells := 0, slots := 0, locals := 0 }
set_option maxRecDepth 100000 in
set_option maxHeartbeats 4000000 in
theorem zX0_has (l : Launch) (D : va_G) (cy : Nat → ClassId) (sa : Nat → Nat) (q : Nat → Nat) (rest : va_W) (sz : Nat) (u : KS) (a1 : Int32) (res : Int32) (hf : mX0_has u a1 = some res) : kMi l yX0_has (wsK yX0_has cX0_has 2 (some .boolean)) rmX0_has D cy sa (WX q cy u ++ rest) sz [.ref (q 10), .int a1] res (WX q cy u ++ rest) 0 0 := by
  refine kM_of (Qc := fun A => kQi D A res (WX q cy u ++ rest)) (cc := cX0_has) (maxL := 2) (ret := (some .boolean)) (by decide) (Nat.le_of_ble_eq_true rfl) ?_
  intro p e s m below meth c A hx hb hml hr hts hown hlocks hin hA hP hD hS hE hsz ls hl
  have hown : s.vm.findClass RX0 = some m.cls := hown
  obtain ⟨H, hH0⟩ : ∃ H, H = s.heap := ⟨_, rfl⟩
  obtain ⟨locs, hlocs0⟩ : ∃ locs : List Loc, locs = [] := ⟨_, rfl⟩
  have hP : va_P D vwCl (WX q cy u ++ rest) H := by rw [hH0]; exact hP
  have hS : va_S A s.heap H locs := by rw [hH0, hlocs0]; exact hS
  have hl : lv_has ls 2 [(0, .ref (q 10)), (1, .int a1)] := hl
  suffices hgoal : W p l e rmX0_has s m ([.ref (q 10), .int a1] : List Value).toArray below meth c H locs 0 0 (MQ below (kQi D A res (WX q cy u ++ rest)) ([.ref (q 10), .int a1] : List Value).toArray s 0 0 A) (F0 m 0 ls []) by rw [hH0, hlocs0] at hgoal; exact hgoal
  clear hH0 hlocs0
  unfold mX0_has at hf
  refine lv_iload_n hx hb dX0_has_0 rfl (lv_at hl 1 rfl) ?_
  refine lv_if_lt (tgt := 16) hx hb dX0_has_1 (by decide) (fun c1 => ?_) (fun c1 => ?_)
  · have hf := o_ip c1 hf
    refine lv_iconst (v := 0) hx hb dX0_has_16 (by decide) ?_
    obtain rfl := o_ret hf
    exact k_zret (v := 0) hx hb hr hP hD hS rfl (Nat.zero_le _) (Nat.zero_le _) hlocks dX0_has_17
  · have hf := o_in c1 hf
    refine lv_iload_n hx hb dX0_has_4 rfl (lv_at hl 1 rfl) ?_
    refine lv_aload_n hx hb dX0_has_5 rfl (lv_at hl 0 rfl) ?_
    refine va_get (ci := 0) (v := .int (gI u 6)) (C := RX0) (T := TX0) (N := 9) hx hb hts inlX0 hown hE.1 hP 10 rfl rfl 1 (by decide) (hts _ wB155) (fun _ h9 => h9) rfl dX0_has_6 ?_
    refine lv_icmp_ge (tgt := 16) hx hb dX0_has_9 (by decide) (fun c9 => ?_) (fun c9 => ?_)
    · have hf := o_ip c9 hf
      refine lv_iconst (v := 0) hx hb dX0_has_16 (by decide) ?_
      obtain rfl := o_ret hf
      exact k_zret (v := 0) hx hb hr hP hD hS rfl (Nat.zero_le _) (Nat.zero_le _) hlocks dX0_has_17
    · have hf := o_in c9 hf
      refine lv_iconst (v := 1) hx hb dX0_has_12 (by decide) ?_
      refine lv_goto (tgt := 17) hx hb dX0_has_13 (by decide) ?_
      obtain rfl := o_ret hf
      exact k_zret (v := 1) hx hb hr hP hD hS rfl (Nat.zero_le _) (Nat.zero_le _) hlocks dX0_has_17
noncomputable def mX5_set (n0 : Nat) (f0 : Nat → Int32) (a1 : Int32) (a2 : Int32) : Option (((Nat → Int32))) :=
  if a1 < 0 then
  (some f0)
  else
  (if (Int32.ofNat n0) ≤ a1 then
  (some f0)
  else
  (gd (inb a1 n0) (some (upd f0 (a1.toNatClampNeg) a2))))
abbrev rmX5_set : Room := { frames := 0, cells := 0, slots := 0, locals := 0 }
set_option maxRecDepth 100000 in
set_option maxHeartbeats 4000000 in
theorem zX5_set (l : Launch) (D : va_G) (cy : Nat → ClassId) (sa : Nat → Nat) (ws : va_W) (sz : Nat) (k0 d0 n0 : Nat) (f0 : Nat → Int32) (a1 : Int32) (a2 : Int32) (res : ((Nat → Int32))) (ha0 : ws[k0]? = some (kII d0 (cy 0) n0 f0)) (hf : mX5_set n0 f0 a1 a2 = some res) : kMv l yX5_set (wsK yX5_set cX5_set 3 none) rmX5_set D cy sa (ws) sz [.ref d0, .int a1, .int a2] ((ws.set k0 (kII d0 (cy 0) n0 res))) 0 0 := by
  refine kM_of (Qc := fun A => kQv D A ((ws.set k0 (kII d0 (cy 0) n0 res)))) (cc := cX5_set) (maxL := 3) (ret := none) (by decide) (Nat.le_of_ble_eq_true rfl) ?_
  intro p e s m below meth c A hx hb hml hr hts hown hlocks hin hA hP hD hS hE hsz ls hl
  have hown : s.vm.findClass RX5 = some m.cls := hown
  obtain ⟨H, hH0⟩ : ∃ H, H = s.heap := ⟨_, rfl⟩
  obtain ⟨locs, hlocs0⟩ : ∃ locs : List Loc, locs = [] := ⟨_, rfl⟩
  have hP : va_P D vwCl (ws) H := by rw [hH0]; exact hP
  have hS : va_S A s.heap H locs := by rw [hH0, hlocs0]; exact hS
  have hl : lv_has ls 3 [(0, .ref d0), (1, .int a1), (2, .int a2)] := hl
  suffices hgoal : W p l e rmX5_set s m ([.ref d0, .int a1, .int a2] : List Value).toArray below meth c H locs 0 0 (MQ below (kQv D A ((ws.set k0 (kII d0 (cy 0) n0 res)))) ([.ref d0, .int a1, .int a2] : List Value).toArray s 0 0 A) (F0 m 0 ls []) by rw [hH0, hlocs0] at hgoal; exact hgoal
  clear hH0 hlocs0
  unfold mX5_set at hf
  refine lv_aload_n hx hb dX5_set_0 rfl (lv_at hl 0 rfl) ?_
  refine lv_ifnull hx hb dX5_set_1 ?_
  refine lv_iload_n hx hb dX5_set_4 rfl (lv_at hl 1 rfl) ?_
  refine lv_if_lt (tgt := 18) hx hb dX5_set_5 (by decide) (fun c5 => ?_) (fun c5 => ?_)
  · have hf := o_ip c5 hf
    have hP : va_P D vwCl ((ws.set k0 (kII d0 (cy 0) n0 f0))) H := by rw [k_setself ha0]; exact hP
    have hD : va_D A ((ws.set k0 (kII d0 (cy 0) n0 f0))) := by rw [k_setself ha0]; exact hD
    obtain rfl := o_ret hf
    exact k_vret hx hb hr hP hD hS (Nat.zero_le _) (Nat.zero_le _) hlocks dX5_set_18
  · have hf := o_in c5 hf
    refine lv_iload_n hx hb dX5_set_8 rfl (lv_at hl 1 rfl) ?_
    refine lv_aload_n hx hb dX5_set_9 rfl (lv_at hl 0 rfl) ?_
    refine va_alen (v := (Int32.ofNat n0)) hx hb hE.1 hP k0 0 ha0 rfl rfl dX5_set_10 ?_
    refine lv_icmp_ge (tgt := 18) hx hb dX5_set_11 (by decide) (fun c11 => ?_) (fun c11 => ?_)
    · have hf := o_ip c11 hf
      have hP : va_P D vwCl ((ws.set k0 (kII d0 (cy 0) n0 f0))) H := by rw [k_setself ha0]; exact hP
      have hD : va_D A ((ws.set k0 (kII d0 (cy 0) n0 f0))) := by rw [k_setself ha0]; exact hD
      obtain rfl := o_ret hf
      exact k_vret hx hb hr hP hD hS (Nat.zero_le _) (Nat.zero_le _) hlocks dX5_set_18
    · have hf := o_in c11 hf
      refine lv_aload_n hx hb dX5_set_14 rfl (lv_at hl 0 rfl) ?_
      refine lv_iload_n hx hb dX5_set_15 rfl (lv_at hl 1 rfl) ?_
      refine lv_iload_n hx hb dX5_set_16 rfl (lv_at hl 2 rfl) ?_
      obtain ⟨hg17, hf⟩ := gd_s hf
      refine va_iast (f := f0) hx hb hE.1 hP hD hS k0 0 ha0 rfl hg17 dX5_set_17 (fun H locs hP hD hS => ?_)
      have hP : va_P D vwCl ((ws.set k0 (kII d0 (cy 0) n0 (upd f0 (a1.toNatClampNeg) a2)))) H := hP
      have hD : va_D A ((ws.set k0 (kII d0 (cy 0) n0 (upd f0 (a1.toNatClampNeg) a2)))) := hD
      obtain rfl := o_ret hf
      exact k_vret hx hb hr hP hD hS (Nat.zero_le _) (Nat.zero_le _) hlocks dX5_set_18
noncomputable def mX0_heat_s4  (s4 : Int32 × Int32 × KS) : Option (((Int32 × KS)) ⊕ (Int32 × Int32 × KS)) :=
  if (gI s4.2.2 6) ≤ s4.2.1 then
  (some (.inl (s4.1, s4.2.2)))
  else
  ((mX5_set 121 (gR s4.2.2 7) s4.2.1 s4.1).bind fun r18 =>
  (mX5_at 120 (gR s4.2.2 8) s4.2.1).bind fun r26 =>
  if r26 = 0 then
  (some (.inr ((if (s4.1 - 1) < 0 then 0 else (s4.1 - 1)), (s4.2.1 + 1), (sR s4.2.2 7 r18))))
  else
  ((mX5_at 120 (gR s4.2.2 9) s4.2.1).bind fun r51 =>
  some (.inr ((if 100 < ((s4.1 + 2) + (r51 / 3)) then 100 else ((s4.1 + 2) + (r51 / 3))), (s4.2.1 + 1), (sR s4.2.2 7 r18)))))
noncomputable def mX0_heat (u : KS) (a1 : Int32) : Option (KS) :=
  (lpF mX0_heat_s4 (a1, 0, u)).bind fun e4 =>
  (mX5_set 121 (gR e4.2 7) (gI e4.2 6) e4.1).bind fun r78 =>
  some (sR e4.2 7 r78)
abbrev rmX0_heat : Room := { frames := 1, cells := 0, slots := 0, locals := 31 }
set_option maxRecDepth 100000 in
set_option maxHeartbeats 4000000 in
theorem zX0_heat (l : Launch) (D : va_G) (cy : Nat → ClassId) (sa : Nat → Nat) (q : Nat → Nat) (rest : va_W) (sz : Nat) (u : KS) (a1 : Int32) (res : KS) (hf : mX0_heat u a1 = some res) : kMv l yX0_heat (wsK yX0_heat cX0_heat 4 none) rmX0_heat D cy sa (WX q cy u ++ rest) sz [.ref (q 10), .int a1] (WX q cy res ++ rest) 0 0 := by
  refine kM_of (Qc := fun A => kQv D A (WX q cy res ++ rest)) (cc := cX0_heat) (maxL := 4) (ret := none) (by decide) (Nat.le_of_ble_eq_true rfl) ?_
  intro p e s m below meth c A hx hb hml hr hts hown hlocks hin hA hP hD hS hE hsz ls hl
  have hown : s.vm.findClass RX0 = some m.cls := hown
  obtain ⟨H, hH0⟩ : ∃ H, H = s.heap := ⟨_, rfl⟩
  obtain ⟨locs, hlocs0⟩ : ∃ locs : List Loc, locs = [] := ⟨_, rfl⟩
  have hP : va_P D vwCl (WX q cy u ++ rest) H := by rw [hH0]; exact hP
  have hS : va_S A s.heap H locs := by rw [hH0, hlocs0]; exact hS
  have hl : lv_has ls 4 [(0, .ref (q 10)), (1, .int a1)] := hl
  suffices hgoal : W p l e rmX0_heat s m ([.ref (q 10), .int a1] : List Value).toArray below meth c H locs 0 0 (MQ below (kQv D A (WX q cy res ++ rest)) ([.ref (q 10), .int a1] : List Value).toArray s 0 0 A) (F0 m 0 ls []) by rw [hH0, hlocs0] at hgoal; exact hgoal
  clear hH0 hlocs0
  unfold mX0_heat at hf
  refine lv_iload_n hx hb dX0_heat_0 rfl (lv_at hl 1 rfl) ?_
  refine lv_istore_n (lv' := [(2, .int a1), (0, .ref (q 10)), (1, .int a1)]) hx hb dX0_heat_1 rfl hl (by decide) rfl (fun ls hl => ?_)
  refine lv_iconst (v := 0) hx hb dX0_heat_2 (by decide) ?_
  refine lv_istore_n (lv' := [(3, .int 0), (2, .int a1), (0, .ref (q 10)), (1, .int a1)]) hx hb dX0_heat_3 rfl hl (by decide) rfl (fun ls hl => ?_)
  have L4 : ∀ (n4v : Nat) (s4 : Int32 × Int32 × KS) (e4 : (Int32 × KS)), lpO mX0_heat_s4 n4v s4 = some e4 → ∀ (H : Heap) (locs : List Loc) (ls : Array Slot), va_P D vwCl (WX q cy s4.2.2 ++ rest) H → va_D A (WX q cy s4.2.2 ++ rest) → va_S A s.heap H locs → lv_has ls 4 [(0, .ref (q 10)), (2, .int s4.1), (3, .int s4.2.1)] → (∀ (H : Heap) (locs : List Loc) (ls : Array Slot), va_P D vwCl (WX q cy e4.2 ++ rest) H → va_D A (WX q cy e4.2 ++ rest) → va_S A s.heap H locs → lv_has ls 4 [(0, .ref (q 10)), (2, .int e4.1)] → W p l e rmX0_heat s m ([.ref (q 10), .int a1] : List Value).toArray below meth c H locs 0 0 (MQ below (kQv D A (WX q cy res ++ rest)) ([.ref (q 10), .int a1] : List Value).toArray s 0 0 A) (F0 m 69 ls [])) → W p l e rmX0_heat s m ([.ref (q 10), .int a1] : List Value).toArray below meth c H locs 0 0 (MQ below (kQv D A (WX q cy res ++ rest)) ([.ref (q 10), .int a1] : List Value).toArray s 0 0 A) (F0 m 4 ls []) := by
    intro n4v
    induction n4v with
    | zero => intro s4 e4 h; exact (lpO_z h).elim
    | succ n4v ih4 =>
      intro s4 e4 h4z H locs ls hP hD hS hl K4_0
      obtain ⟨x4, hf, h4z⟩ := lpO_s h4z
      unfold mX0_heat_s4 at hf
      refine lv_iload_n hx hb dX0_heat_4 rfl (lv_at hl 2 rfl) ?_
      refine lv_aload_n hx hb dX0_heat_5 rfl (lv_at hl 0 rfl) ?_
      refine va_get (ci := 0) (v := .int (gI s4.2.2 6)) (C := RX0) (T := TX0) (N := 9) hx hb hts inlX0 hown hE.1 hP 10 rfl rfl 1 (by decide) (hts _ wB155) (fun _ h9 => h9) rfl dX0_heat_6 ?_
      refine lv_icmp_ge (tgt := 69) hx hb dX0_heat_9 (by decide) (fun c9 => ?_) (fun c9 => ?_)
      · have hf := o_ip c9 hf
        obtain rfl := o_ret hf
        obtain rfl := lpK_l h4z
        exact K4_0 _ _ _ hP hD hS (lv_sub hl [0, 1] rfl)
      · have hf := o_in c9 hf
        refine lv_aload_n hx hb dX0_heat_12 rfl (lv_at hl 0 rfl) ?_
        refine va_get (ci := 0) (v := .ref (q 11)) (C := RX0) (T := TX0) (N := 9) hx hb hts inlX0 hown hE.1 hP 10 rfl rfl 2 (by decide) (hts _ wB51) (fun _ h9 => h9) rfl dX0_heat_13 ?_
        refine lv_iload_n hx hb dX0_heat_16 rfl (lv_at hl 2 rfl) ?_
        refine lv_iload_n hx hb dX0_heat_17 rfl (lv_at hl 1 rfl) ?_
        obtain ⟨r18, h18r, hf⟩ := o_bs hf
        refine k_gov (va_runSN (As := [.ref (q 11), .int s4.2.1, .int s4.1]) (rest := []) ⟨hx, hb, hml, hown, hts⟩ (zX5_set l D cy sa (WX q cy s4.2.2 ++ rest) H.size 11 (q 11) 121 (gR s4.2.2 7) s4.2.1 s4.1 r18 rfl h18r) ⟨va_cnB 3 hts (gB_K wB115) rfl rfl rfl (hE.2.1.1 _ (List.mem_of_getElem? (i := 5) rfl)) (hts _ wB2) (by decide +kernel) ⟨Nat.le_of_ble_eq_true rfl, Nat.le_of_ble_eq_true rfl⟩, hts _ wB114, trivial⟩ ⟨kP.blind, k_pre hP hD hS hE hA⟩ rfl rfl hl.1 rfl (lv_room (Nat.le_of_ble_eq_true rfl)) dX0_heat_18 ⟨Nat.zero_le _, Nat.zero_le _⟩) hD hS hA (fun H locs hP hD hS => ?_)
        have hP : va_P D vwCl (WX q cy (sR s4.2.2 7 r18) ++ rest) H := hP
        have hD : va_D A (WX q cy (sR s4.2.2 7 r18) ++ rest) := hD
        refine lv_aload_n hx hb dX0_heat_21 rfl (lv_at hl 0 rfl) ?_
        refine va_get (ci := 0) (v := .ref (q 12)) (C := RX0) (T := TX0) (N := 9) hx hb hts inlX0 hown hE.1 hP 10 rfl rfl 3 (by decide) (hts _ wB52) (fun _ h9 => h9) rfl dX0_heat_22 ?_
        refine lv_iload_n hx hb dX0_heat_25 rfl (lv_at hl 2 rfl) ?_
        obtain ⟨r26, h26r, hf⟩ := o_bs hf
        refine k_goi (va_runSN (As := [.ref (q 12), .int s4.2.1]) (rest := []) ⟨hx, hb, hml, hown, hts⟩ (zX5_at l D cy sa (WX q cy (sR s4.2.2 7 r18) ++ rest) H.size 12 (q 12) 120 (gR s4.2.2 8) s4.2.1 r26 rfl h26r) ⟨va_cnB 2 hts (gB_K wB112) rfl rfl rfl (hE.2.1.1 _ (List.mem_of_getElem? (i := 4) rfl)) (hts _ wB2) (by decide +kernel) ⟨Nat.le_of_ble_eq_true rfl, Nat.le_of_ble_eq_true rfl⟩, hts _ wB111, trivial⟩ ⟨kP.blind, k_pre hP hD hS hE hA⟩ rfl rfl hl.1 rfl (lv_room (Nat.le_of_ble_eq_true rfl)) dX0_heat_26 ⟨Nat.zero_le _, Nat.zero_le _⟩) hD hS hA (fun H locs hP hD hS => ?_)
        refine lv_if_ne (tgt := 43) hx hb dX0_heat_29 (by decide) (fun c29 => ?_) (fun c29 => ?_)
        · have hf := o_in c29 hf
          refine lv_iload_n hx hb dX0_heat_43 rfl (lv_at hl 1 rfl) ?_
          refine lv_iconst (v := 2) hx hb dX0_heat_44 (by decide) ?_
          refine lv_iadd hx hb dX0_heat_45 ?_
          refine lv_aload_n hx hb dX0_heat_46 rfl (lv_at hl 0 rfl) ?_
          refine va_get (ci := 0) (v := .ref (q 13)) (C := RX0) (T := TX0) (N := 9) hx hb hts inlX0 hown hE.1 hP 10 rfl rfl 4 (by decide) (hts _ wB53) (fun _ h9 => h9) rfl dX0_heat_47 ?_
          refine lv_iload_n hx hb dX0_heat_50 rfl (lv_at hl 2 rfl) ?_
          obtain ⟨r51, h51r, hf⟩ := o_bs hf
          refine k_goi (va_runSN (As := [.ref (q 13), .int s4.2.1]) (rest := [.int (s4.1 + 2)]) ⟨hx, hb, hml, hown, hts⟩ (zX5_at l D cy sa (WX q cy (sR s4.2.2 7 r18) ++ rest) H.size 13 (q 13) 120 (gR s4.2.2 9) s4.2.1 r51 rfl h51r) ⟨va_cnB 2 hts (gB_K wB112) rfl rfl rfl (hE.2.1.1 _ (List.mem_of_getElem? (i := 4) rfl)) (hts _ wB2) (by decide +kernel) ⟨Nat.le_of_ble_eq_true rfl, Nat.le_of_ble_eq_true rfl⟩, hts _ wB111, trivial⟩ ⟨kP.blind, k_pre hP hD hS hE hA⟩ rfl rfl hl.1 rfl (lv_room (Nat.le_of_ble_eq_true rfl)) dX0_heat_51 ⟨Nat.zero_le _, Nat.zero_le _⟩) hD hS hA (fun H locs hP hD hS => ?_)
          refine lv_iconst (v := 3) hx hb dX0_heat_54 (by decide) ?_
          refine lv_idiv hx hb dX0_heat_55 (by decide) ?_
          refine lv_iadd hx hb dX0_heat_56 ?_
          refine lv_bipush (v := 100) hx hb dX0_heat_57 (by decide) ?_
          refine va_mmin hx hb (hml.trans hl.1.symm) hown (hts _ wB238) (hts _ wB239) (hts _ wB240) (hts _ wB241) (Nat.le_of_ble_eq_true rfl) (Nat.le_of_ble_eq_true rfl) (Nat.zero_le _) (Nat.zero_le _) dX0_heat_59 ?_
          refine lv_istore_n (lv' := [(2, .int (if 100 < ((s4.1 + 2) + (r51 / 3)) then 100 else ((s4.1 + 2) + (r51 / 3)))), (0, .ref (q 10)), (3, .int s4.2.1)]) hx hb dX0_heat_62 rfl hl (by decide) rfl (fun ls hl => ?_)
          refine lv_iinc (v := (s4.2.1 + 1)) (lv' := [(3, .int (s4.2.1 + 1)), (2, .int (if 100 < ((s4.1 + 2) + (r51 / 3)) then 100 else ((s4.1 + 2) + (r51 / 3)))), (0, .ref (q 10))]) hx hb dX0_heat_63 hl (k := 2) rfl (by rfl) (by decide) rfl (fun ls hl => ?_)
          refine lv_goto (tgt := 4) hx hb dX0_heat_66 (by decide) ?_
          obtain rfl := o_ret hf
          exact ih4 _ _ (lpK_r h4z) _ _ _ hP hD hS (lv_sub hl [2, 1, 0] rfl) K4_0
        · have hf := o_ip c29 hf
          refine lv_iload_n hx hb dX0_heat_32 rfl (lv_at hl 1 rfl) ?_
          refine lv_iconst (v := 1) hx hb dX0_heat_33 (by decide) ?_
          refine lv_isub hx hb dX0_heat_34 ?_
          refine lv_iconst (v := 0) hx hb dX0_heat_35 (by decide) ?_
          refine va_mmax hx hb (hml.trans hl.1.symm) hown (hts _ wB249) (hts _ wB250) (hts _ wB240) (hts _ wB251) (Nat.le_of_ble_eq_true rfl) (Nat.le_of_ble_eq_true rfl) (Nat.zero_le _) (Nat.zero_le _) dX0_heat_36 ?_
          refine lv_istore_n (lv' := [(2, .int (if (s4.1 - 1) < 0 then 0 else (s4.1 - 1))), (0, .ref (q 10)), (3, .int s4.2.1)]) hx hb dX0_heat_39 rfl hl (by decide) rfl (fun ls hl => ?_)
          refine lv_goto (tgt := 63) hx hb dX0_heat_40 (by decide) ?_
          refine lv_iinc (v := (s4.2.1 + 1)) (lv' := [(3, .int (s4.2.1 + 1)), (2, .int (if (s4.1 - 1) < 0 then 0 else (s4.1 - 1))), (0, .ref (q 10))]) hx hb dX0_heat_63 hl (k := 2) rfl (by rfl) (by decide) rfl (fun ls hl => ?_)
          refine lv_goto (tgt := 4) hx hb dX0_heat_66 (by decide) ?_
          obtain rfl := o_ret hf
          exact ih4 _ _ (lpK_r h4z) _ _ _ hP hD hS (lv_sub hl [2, 1, 0] rfl) K4_0
  obtain ⟨e4, h4q, hf⟩ := o_bs hf
  obtain ⟨n4v, h4q⟩ := lpF_ex h4q
  refine L4 n4v _ e4 h4q _ _ _ hP hD hS (lv_sub hl [2, 1, 0] rfl) ?_
  intro H locs ls hP hD hS hl
  refine lv_aload_n hx hb dX0_heat_69 rfl (lv_at hl 0 rfl) ?_
  refine va_get (ci := 0) (v := .ref (q 11)) (C := RX0) (T := TX0) (N := 9) hx hb hts inlX0 hown hE.1 hP 10 rfl rfl 2 (by decide) (hts _ wB51) (fun _ h9 => h9) rfl dX0_heat_70 ?_
  refine lv_aload_n hx hb dX0_heat_73 rfl (lv_at hl 0 rfl) ?_
  refine va_get (ci := 0) (v := .int (gI e4.2 6)) (C := RX0) (T := TX0) (N := 9) hx hb hts inlX0 hown hE.1 hP 10 rfl rfl 1 (by decide) (hts _ wB155) (fun _ h9 => h9) rfl dX0_heat_74 ?_
  refine lv_iload_n hx hb dX0_heat_77 rfl (lv_at hl 1 rfl) ?_
  obtain ⟨r78, h78r, hf⟩ := o_bs hf
  refine k_gov (va_runSN (As := [.ref (q 11), .int (gI e4.2 6), .int e4.1]) (rest := []) ⟨hx, hb, hml, hown, hts⟩ (zX5_set l D cy sa (WX q cy e4.2 ++ rest) H.size 11 (q 11) 121 (gR e4.2 7) (gI e4.2 6) e4.1 r78 rfl h78r) ⟨va_cnB 3 hts (gB_K wB115) rfl rfl rfl (hE.2.1.1 _ (List.mem_of_getElem? (i := 5) rfl)) (hts _ wB2) (by decide +kernel) ⟨Nat.le_of_ble_eq_true rfl, Nat.le_of_ble_eq_true rfl⟩, hts _ wB114, trivial⟩ ⟨kP.blind, k_pre hP hD hS hE hA⟩ rfl rfl hl.1 rfl (lv_room (Nat.le_of_ble_eq_true rfl)) dX0_heat_78 ⟨Nat.zero_le _, Nat.zero_le _⟩) hD hS hA (fun H locs hP hD hS => ?_)
  have hP : va_P D vwCl (WX q cy (sR e4.2 7 r78) ++ rest) H := hP
  have hD : va_D A (WX q cy (sR e4.2 7 r78) ++ rest) := hD
  obtain rfl := o_ret hf
  exact k_vret hx hb hr hP hD hS (Nat.zero_le _) (Nat.zero_le _) hlocks dX0_heat_81
noncomputable def mX0_isWord_s15 (n0 : Nat) (f0 : Nat → Int32) (c1 : Int32) (c3 : Nat) (s15 : Int32) : Option ((Unit ⊕ Unit) ⊕ (Int32)) :=
  (mJ0_length_8abf5 c3).bind fun r18 =>
  if r18 ≤ s15 then
  (some (.inl (.inl ())))
  else
  ((mX5_at n0 f0 (c1 + s15)).bind fun r29 =>
  (mJ0_charAt_5068e c3 s15).bind fun r35 =>
  if r29 = r35 then
  (some (.inr (s15 + 1)))
  else
  (some (.inl (.inr ()))))
noncomputable def mX0_isWord (n0 : Nat) (f0 : Nat → Int32) (a1 : Int32) (a2 : Int32) (w3 : Nat) : Option (Int32) :=
  (mJ0_length_8abf5 w3).bind fun r4 =>
  if (a2 - a1) = r4 then
  ((lpF (mX0_isWord_s15 n0 f0 a1 w3) 0).bind (oE (fun e15_0 => some 1) (fun e15_1 => some 0)))
  else
  (some 0)
abbrev rmX0_isWord : Room := { frames := 4, cells := 0, slots := 0, locals := 85 }
set_option maxRecDepth 100000 in
set_option maxHeartbeats 4000000 in
theorem zX0_isWord (l : Launch) (D : va_G) (cy : Nat → ClassId) (sa : Nat → Nat) (ws : va_W) (sz : Nat) (k0 d0 n0 : Nat) (f0 : Nat → Int32) (a1 : Int32) (a2 : Int32) (w3 : Nat) (res : Int32) (ha0 : ws[k0]? = some (kII d0 (cy 0) n0 f0)) (hw : w3 < 4) (hf : mX0_isWord n0 f0 a1 a2 w3 = some res) : kMi l yX0_isWord (wsK yX0_isWord cX0_isWord 5 (some .boolean)) rmX0_isWord D cy sa (ws) sz [.ref d0, .int a1, .int a2, .ref (sa w3)] res (ws) 0 0 := by
  refine kM_of (Qc := fun A => kQi D A res (ws)) (cc := cX0_isWord) (maxL := 5) (ret := (some .boolean)) (by decide) (Nat.le_of_ble_eq_true rfl) ?_
  intro p e s m below meth c A hx hb hml hr hts hown hlocks hin hA hP hD hS hE hsz ls hl
  have hown : s.vm.findClass RX0 = some m.cls := hown
  obtain ⟨H, hH0⟩ : ∃ H, H = s.heap := ⟨_, rfl⟩
  obtain ⟨locs, hlocs0⟩ : ∃ locs : List Loc, locs = [] := ⟨_, rfl⟩
  have hP : va_P D vwCl (ws) H := by rw [hH0]; exact hP
  have hS : va_S A s.heap H locs := by rw [hH0, hlocs0]; exact hS
  have hl : lv_has ls 5 [(0, .ref d0), (1, .int a1), (2, .int a2), (3, .ref (sa w3))] := hl
  suffices hgoal : W p l e rmX0_isWord s m ([.ref d0, .int a1, .int a2, .ref (sa w3)] : List Value).toArray below meth c H locs 0 0 (MQ below (kQi D A res (ws)) ([.ref d0, .int a1, .int a2, .ref (sa w3)] : List Value).toArray s 0 0 A) (F0 m 0 ls []) by rw [hH0, hlocs0] at hgoal; exact hgoal
  clear hH0 hlocs0
  unfold mX0_isWord at hf
  refine lv_iload_n hx hb dX0_isWord_0 rfl (lv_at hl 2 rfl) ?_
  refine lv_iload_n hx hb dX0_isWord_1 rfl (lv_at hl 1 rfl) ?_
  refine lv_isub hx hb dX0_isWord_2 ?_
  refine lv_aload_n hx hb dX0_isWord_3 rfl (lv_at hl 3 rfl) ?_
  obtain ⟨r4, h4r, hf⟩ := o_bs hf
  refine k_goi (va_runV (As := []) (rest := [.int (a2 - a1)]) ⟨hx, hb, hml, hown, hts⟩ (zJ0_length_8abf5 l D cy sa (ws) H.size w3  r4 hw h4r) (cwV 0 hts (gB_V wB178 wB179 wB180 wB181 wB182) rfl rfl rfl (by decide +kernel) ⟨Nat.le_of_ble_eq_true rfl, Nat.le_of_ble_eq_true rfl⟩) ⟨kP.blind, vk_recv hE.2.2.1 hw hS, k_pre hP hD hS hE hA⟩ rfl rfl hl.1 rfl (lv_room (Nat.le_of_ble_eq_true rfl)) dX0_isWord_4 ⟨Nat.zero_le _, Nat.zero_le _⟩) hD hS hA (fun H locs hP hD hS => ?_)
  refine lv_icmp_eq (tgt := 12) hx hb dX0_isWord_7 (by decide) (fun c7 => ?_) (fun c7 => ?_)
  · have hf := o_ip c7 hf
    refine lv_iconst (v := 0) hx hb dX0_isWord_12 (by decide) ?_
    refine lv_istore (lv' := [(4, .int 0), (0, .ref d0), (1, .int a1), (2, .int a2), (3, .ref (sa w3))]) hx hb dX0_isWord_13 hl (by decide) rfl (fun ls hl => ?_)
    have L15 : ∀ (n15v : Nat) (s15 : Int32) (e15 : Unit ⊕ Unit), lpO (mX0_isWord_s15 n0 f0 a1 w3) n15v s15 = some e15 → ∀ (H : Heap) (locs : List Loc) (ls : Array Slot), va_P D vwCl (ws) H → va_D A (ws) → va_S A s.heap H locs → lv_has ls 5 [(0, .ref d0), (1, .int a1), (3, .ref (sa w3)), (4, .int s15)] → (∀ e15_0 : Unit, e15 = (.inl e15_0) → ∀ (H : Heap) (locs : List Loc) (ls : Array Slot), va_P D vwCl (ws) H → va_D A (ws) → va_S A s.heap H locs → lv_has ls 5 [] → W p l e rmX0_isWord s m ([.ref d0, .int a1, .int a2, .ref (sa w3)] : List Value).toArray below meth c H locs 0 0 (MQ below (kQi D A res (ws)) ([.ref d0, .int a1, .int a2, .ref (sa w3)] : List Value).toArray s 0 0 A) (F0 m 49 ls [])) → (∀ e15_1 : Unit, e15 = (.inr e15_1) → ∀ (H : Heap) (locs : List Loc) (ls : Array Slot), va_P D vwCl (ws) H → va_D A (ws) → va_S A s.heap H locs → lv_has ls 5 [] → W p l e rmX0_isWord s m ([.ref d0, .int a1, .int a2, .ref (sa w3)] : List Value).toArray below meth c H locs 0 0 (MQ below (kQi D A res (ws)) ([.ref d0, .int a1, .int a2, .ref (sa w3)] : List Value).toArray s 0 0 A) (F0 m 41 ls [])) → W p l e rmX0_isWord s m ([.ref d0, .int a1, .int a2, .ref (sa w3)] : List Value).toArray below meth c H locs 0 0 (MQ below (kQi D A res (ws)) ([.ref d0, .int a1, .int a2, .ref (sa w3)] : List Value).toArray s 0 0 A) (F0 m 15 ls []) := by
      intro n15v
      induction n15v with
      | zero => intro s15 e15 h; exact (lpO_z h).elim
      | succ n15v ih15 =>
        intro s15 e15 h15z H locs ls hP hD hS hl K15_0 K15_1
        obtain ⟨x15, hf, h15z⟩ := lpO_s h15z
        unfold mX0_isWord_s15 at hf
        refine lv_iload hx hb dX0_isWord_15 (lv_at hl 3 rfl) ?_
        refine lv_aload_n hx hb dX0_isWord_17 rfl (lv_at hl 2 rfl) ?_
        obtain ⟨r18, h18r, hf⟩ := o_bs hf
        refine k_goi (va_runV (As := []) (rest := [.int s15]) ⟨hx, hb, hml, hown, hts⟩ (zJ0_length_8abf5 l D cy sa (ws) H.size w3  r18 hw h18r) (cwV 0 hts (gB_V wB178 wB179 wB180 wB181 wB182) rfl rfl rfl (by decide +kernel) ⟨Nat.le_of_ble_eq_true rfl, Nat.le_of_ble_eq_true rfl⟩) ⟨kP.blind, vk_recv hE.2.2.1 hw hS, k_pre hP hD hS hE hA⟩ rfl rfl hl.1 rfl (lv_room (Nat.le_of_ble_eq_true rfl)) dX0_isWord_18 ⟨Nat.zero_le _, Nat.zero_le _⟩) hD hS hA (fun H locs hP hD hS => ?_)
        refine lv_icmp_ge (tgt := 49) hx hb dX0_isWord_21 (by decide) (fun c21 => ?_) (fun c21 => ?_)
        · have hf := o_ip c21 hf
          obtain rfl := o_ret hf
          obtain rfl := lpK_l h15z
          exact K15_0 _ rfl _ _ _ hP hD hS (lv_sub hl [] rfl)
        · have hf := o_in c21 hf
          refine lv_aload_n hx hb dX0_isWord_24 rfl (lv_at hl 0 rfl) ?_
          refine lv_iload_n hx hb dX0_isWord_25 rfl (lv_at hl 1 rfl) ?_
          refine lv_iload hx hb dX0_isWord_26 (lv_at hl 3 rfl) ?_
          refine lv_iadd hx hb dX0_isWord_28 ?_
          obtain ⟨r29, h29r, hf⟩ := o_bs hf
          refine k_goi (va_runSN (As := [.ref d0, .int (a1 + s15)]) (rest := []) ⟨hx, hb, hml, hown, hts⟩ (zX5_at l D cy sa (ws) H.size k0 d0 n0 f0 (a1 + s15) r29 ha0 h29r) ⟨va_cnB 2 hts (gB_K wB112) rfl rfl rfl (hE.2.1.1 _ (List.mem_of_getElem? (i := 4) rfl)) (hts _ wB2) (by decide +kernel) ⟨Nat.le_of_ble_eq_true rfl, Nat.le_of_ble_eq_true rfl⟩, hts _ wB111, trivial⟩ ⟨kP.blind, k_pre hP hD hS hE hA⟩ rfl rfl hl.1 rfl (lv_room (Nat.le_of_ble_eq_true rfl)) dX0_isWord_29 ⟨Nat.zero_le _, Nat.zero_le _⟩) hD hS hA (fun H locs hP hD hS => ?_)
          refine lv_aload_n hx hb dX0_isWord_32 rfl (lv_at hl 2 rfl) ?_
          refine lv_iload hx hb dX0_isWord_33 (lv_at hl 3 rfl) ?_
          obtain ⟨r35, h35r, hf⟩ := o_bs hf
          refine k_goi (va_runV (As := [.int s15]) (rest := [.int r29]) ⟨hx, hb, hml, hown, hts⟩ (zJ0_charAt_5068e l D cy sa (ws) H.size w3 s15  r35 hw h35r) (cwV 1 hts (gB_V wB190 wB191 wB192 wB181 wB193) rfl rfl rfl (by decide +kernel) ⟨Nat.le_of_ble_eq_true rfl, Nat.le_of_ble_eq_true rfl⟩) ⟨kP.blind, vk_recv hE.2.2.1 hw hS, k_pre hP hD hS hE hA⟩ rfl rfl hl.1 rfl (lv_room (Nat.le_of_ble_eq_true rfl)) dX0_isWord_35 ⟨Nat.zero_le _, Nat.zero_le _⟩) hD hS hA (fun H locs hP hD hS => ?_)
          refine lv_icmp_eq (tgt := 43) hx hb dX0_isWord_38 (by decide) (fun c38 => ?_) (fun c38 => ?_)
          · have hf := o_ip c38 hf
            refine lv_iinc (v := (s15 + 1)) (lv' := [(4, .int (s15 + 1)), (0, .ref d0), (1, .int a1), (3, .ref (sa w3))]) hx hb dX0_isWord_43 hl (k := 3) rfl (by rfl) (by decide) rfl (fun ls hl => ?_)
            refine lv_goto (tgt := 15) hx hb dX0_isWord_46 (by decide) ?_
            obtain rfl := o_ret hf
            exact ih15 _ _ (lpK_r h15z) _ _ _ hP hD hS (lv_sub hl [1, 2, 3, 0] rfl) K15_0 K15_1
          · have hf := o_in c38 hf
            obtain rfl := o_ret hf
            obtain rfl := lpK_l h15z
            exact K15_1 _ rfl _ _ _ hP hD hS (lv_sub hl [] rfl)
    obtain ⟨e15, h15q, hf⟩ := o_bs hf
    obtain ⟨n15v, h15q⟩ := lpF_ex h15q
    refine L15 n15v _ e15 h15q _ _ _ hP hD hS (lv_sub hl [1, 2, 4, 0] rfl) ?_ ?_
    · intro e15_0 ez15 H locs ls hP hD hS hl
      subst ez15
      have hf := oE_l hf
      refine lv_iconst (v := 1) hx hb dX0_isWord_49 (by decide) ?_
      obtain rfl := o_ret hf
      exact k_zret (v := 1) hx hb hr hP hD hS rfl (Nat.zero_le _) (Nat.zero_le _) hlocks dX0_isWord_50
    · intro e15_1 ez15 H locs ls hP hD hS hl
      subst ez15
      have hf := oE_r hf
      refine lv_iconst (v := 0) hx hb dX0_isWord_41 (by decide) ?_
      obtain rfl := o_ret hf
      exact k_zret (v := 0) hx hb hr hP hD hS rfl (Nat.zero_le _) (Nat.zero_le _) hlocks dX0_isWord_42
  · have hf := o_in c7 hf
    refine lv_iconst (v := 0) hx hb dX0_isWord_10 (by decide) ?_
    obtain rfl := o_ret hf
    exact k_zret (v := 0) hx hb hr hP hD hS rfl (Nat.zero_le _) (Nat.zero_le _) hlocks dX0_isWord_11
noncomputable def mX0_itemAt (n0 : Nat) (f0 : Nat → Int32) (a1 : Int32) (a2 : Int32) : Option (Int32) :=
  (mX0_isWord n0 f0 a1 a2 0).bind fun r5 =>
  if r5 = 0 then
  ((mX0_isWord n0 f0 a1 a2 1).bind fun r18 =>
  if r18 = 0 then
  ((mX0_isWord n0 f0 a1 a2 2).bind fun r31 =>
  if r31 = 0 then
  ((mX0_isWord n0 f0 a1 a2 3).bind fun r44 =>
  if r44 = 0 then
  (some (-1))
  else
  (some 3))
  else
  (some 2))
  else
  (some 1))
  else
  (some 0)
abbrev rmX0_itemAt : Room := { frames := 5, cells := 0, slots := 0, locals := 109 }
set_option maxRecDepth 100000 in
set_option maxHeartbeats 4000000 in
theorem zX0_itemAt (l : Launch) (D : va_G) (cy : Nat → ClassId) (sa : Nat → Nat) (ws : va_W) (sz : Nat) (k0 d0 n0 : Nat) (f0 : Nat → Int32) (a1 : Int32) (a2 : Int32) (res : Int32) (ha0 : ws[k0]? = some (kII d0 (cy 0) n0 f0)) (hf : mX0_itemAt n0 f0 a1 a2 = some res) : kMi l yX0_itemAt (wsK yX0_itemAt cX0_itemAt 3 (some .int)) rmX0_itemAt D cy sa (ws) sz [.ref d0, .int a1, .int a2] res (ws) 0 0 := by
  refine kM_of (Qc := fun A => kQi D A res (ws)) (cc := cX0_itemAt) (maxL := 3) (ret := (some .int)) (by decide) (Nat.le_of_ble_eq_true rfl) ?_
  intro p e s m below meth c A hx hb hml hr hts hown hlocks hin hA hP hD hS hE hsz ls hl
  have hown : s.vm.findClass RX0 = some m.cls := hown
  obtain ⟨H, hH0⟩ : ∃ H, H = s.heap := ⟨_, rfl⟩
  obtain ⟨locs, hlocs0⟩ : ∃ locs : List Loc, locs = [] := ⟨_, rfl⟩
  have hP : va_P D vwCl (ws) H := by rw [hH0]; exact hP
  have hS : va_S A s.heap H locs := by rw [hH0, hlocs0]; exact hS
  have hl : lv_has ls 3 [(0, .ref d0), (1, .int a1), (2, .int a2)] := hl
  suffices hgoal : W p l e rmX0_itemAt s m ([.ref d0, .int a1, .int a2] : List Value).toArray below meth c H locs 0 0 (MQ below (kQi D A res (ws)) ([.ref d0, .int a1, .int a2] : List Value).toArray s 0 0 A) (F0 m 0 ls []) by rw [hH0, hlocs0] at hgoal; exact hgoal
  clear hH0 hlocs0
  unfold mX0_itemAt at hf
  refine lv_aload_n hx hb dX0_itemAt_0 rfl (lv_at hl 0 rfl) ?_
  refine lv_iload_n hx hb dX0_itemAt_1 rfl (lv_at hl 1 rfl) ?_
  refine lv_iload_n hx hb dX0_itemAt_2 rfl (lv_at hl 2 rfl) ?_
  refine va_ldcS (q := sa 0) hx hb hown hE.2.1.2.2.1 dX0_itemAt_3 ?_
  obtain ⟨r5, h5r, hf⟩ := o_bs hf
  refine k_goi (va_runS (As := [.ref d0, .int a1, .int a2, .ref (sa 0)]) (rest := []) ⟨hx, hb, hml, hown, hts⟩ (zX0_isWord l D cy sa (ws) H.size k0 d0 n0 f0 a1 a2 0 r5 ha0 (by decide) h5r) (va_cwS 4 hts (gB_S wB175 wB176 wB20 wB177) rfl rfl rfl (by decide +kernel) ⟨Nat.le_of_ble_eq_true rfl, Nat.le_of_ble_eq_true rfl⟩) ⟨kP.blind, k_pre hP hD hS hE hA⟩ rfl rfl hl.1 rfl (lv_room (Nat.le_of_ble_eq_true rfl)) dX0_itemAt_5 ⟨Nat.zero_le _, Nat.zero_le _⟩) hD hS hA (fun H locs hP hD hS => ?_)
  refine lv_if_eq (tgt := 13) hx hb dX0_itemAt_8 (by decide) (fun c8 => ?_) (fun c8 => ?_)
  · have hf := o_ip c8 hf
    refine lv_aload_n hx hb dX0_itemAt_13 rfl (lv_at hl 0 rfl) ?_
    refine lv_iload_n hx hb dX0_itemAt_14 rfl (lv_at hl 1 rfl) ?_
    refine lv_iload_n hx hb dX0_itemAt_15 rfl (lv_at hl 2 rfl) ?_
    refine va_ldcS (q := sa 1) hx hb hown hE.2.1.2.2.2.1 dX0_itemAt_16 ?_
    obtain ⟨r18, h18r, hf⟩ := o_bs hf
    refine k_goi (va_runS (As := [.ref d0, .int a1, .int a2, .ref (sa 1)]) (rest := []) ⟨hx, hb, hml, hown, hts⟩ (zX0_isWord l D cy sa (ws) H.size k0 d0 n0 f0 a1 a2 1 r18 ha0 (by decide) h18r) (va_cwS 4 hts (gB_S wB175 wB176 wB20 wB177) rfl rfl rfl (by decide +kernel) ⟨Nat.le_of_ble_eq_true rfl, Nat.le_of_ble_eq_true rfl⟩) ⟨kP.blind, k_pre hP hD hS hE hA⟩ rfl rfl hl.1 rfl (lv_room (Nat.le_of_ble_eq_true rfl)) dX0_itemAt_18 ⟨Nat.zero_le _, Nat.zero_le _⟩) hD hS hA (fun H locs hP hD hS => ?_)
    refine lv_if_eq (tgt := 26) hx hb dX0_itemAt_21 (by decide) (fun c21 => ?_) (fun c21 => ?_)
    · have hf := o_ip c21 hf
      refine lv_aload_n hx hb dX0_itemAt_26 rfl (lv_at hl 0 rfl) ?_
      refine lv_iload_n hx hb dX0_itemAt_27 rfl (lv_at hl 1 rfl) ?_
      refine lv_iload_n hx hb dX0_itemAt_28 rfl (lv_at hl 2 rfl) ?_
      refine va_ldcS (q := sa 2) hx hb hown hE.2.1.2.2.2.2.1 dX0_itemAt_29 ?_
      obtain ⟨r31, h31r, hf⟩ := o_bs hf
      refine k_goi (va_runS (As := [.ref d0, .int a1, .int a2, .ref (sa 2)]) (rest := []) ⟨hx, hb, hml, hown, hts⟩ (zX0_isWord l D cy sa (ws) H.size k0 d0 n0 f0 a1 a2 2 r31 ha0 (by decide) h31r) (va_cwS 4 hts (gB_S wB175 wB176 wB20 wB177) rfl rfl rfl (by decide +kernel) ⟨Nat.le_of_ble_eq_true rfl, Nat.le_of_ble_eq_true rfl⟩) ⟨kP.blind, k_pre hP hD hS hE hA⟩ rfl rfl hl.1 rfl (lv_room (Nat.le_of_ble_eq_true rfl)) dX0_itemAt_31 ⟨Nat.zero_le _, Nat.zero_le _⟩) hD hS hA (fun H locs hP hD hS => ?_)
      refine lv_if_eq (tgt := 39) hx hb dX0_itemAt_34 (by decide) (fun c34 => ?_) (fun c34 => ?_)
      · have hf := o_ip c34 hf
        refine lv_aload_n hx hb dX0_itemAt_39 rfl (lv_at hl 0 rfl) ?_
        refine lv_iload_n hx hb dX0_itemAt_40 rfl (lv_at hl 1 rfl) ?_
        refine lv_iload_n hx hb dX0_itemAt_41 rfl (lv_at hl 2 rfl) ?_
        refine va_ldcS (q := sa 3) hx hb hown hE.2.1.2.2.2.2.2 dX0_itemAt_42 ?_
        obtain ⟨r44, h44r, hf⟩ := o_bs hf
        refine k_goi (va_runS (As := [.ref d0, .int a1, .int a2, .ref (sa 3)]) (rest := []) ⟨hx, hb, hml, hown, hts⟩ (zX0_isWord l D cy sa (ws) H.size k0 d0 n0 f0 a1 a2 3 r44 ha0 (by decide) h44r) (va_cwS 4 hts (gB_S wB175 wB176 wB20 wB177) rfl rfl rfl (by decide +kernel) ⟨Nat.le_of_ble_eq_true rfl, Nat.le_of_ble_eq_true rfl⟩) ⟨kP.blind, k_pre hP hD hS hE hA⟩ rfl rfl hl.1 rfl (lv_room (Nat.le_of_ble_eq_true rfl)) dX0_itemAt_44 ⟨Nat.zero_le _, Nat.zero_le _⟩) hD hS hA (fun H locs hP hD hS => ?_)
        refine lv_if_eq (tgt := 54) hx hb dX0_itemAt_47 (by decide) (fun c47 => ?_) (fun c47 => ?_)
        · have hf := o_ip c47 hf
          refine lv_iconst (v := (-1)) hx hb dX0_itemAt_54 (by decide) ?_
          obtain rfl := o_ret hf
          exact k_iret hx hb hr hP hD hS (Nat.zero_le _) (Nat.zero_le _) hlocks dX0_itemAt_55
        · have hf := o_in c47 hf
          refine lv_iconst (v := 3) hx hb dX0_itemAt_50 (by decide) ?_
          refine lv_goto (tgt := 55) hx hb dX0_itemAt_51 (by decide) ?_
          obtain rfl := o_ret hf
          exact k_iret hx hb hr hP hD hS (Nat.zero_le _) (Nat.zero_le _) hlocks dX0_itemAt_55
      · have hf := o_in c34 hf
        refine lv_iconst (v := 2) hx hb dX0_itemAt_37 (by decide) ?_
        obtain rfl := o_ret hf
        exact k_iret hx hb hr hP hD hS (Nat.zero_le _) (Nat.zero_le _) hlocks dX0_itemAt_38
    · have hf := o_in c21 hf
      refine lv_iconst (v := 1) hx hb dX0_itemAt_24 (by decide) ?_
      obtain rfl := o_ret hf
      exact k_iret hx hb hr hP hD hS (Nat.zero_le _) (Nat.zero_le _) hlocks dX0_itemAt_25
  · have hf := o_in c8 hf
    refine lv_iconst (v := 0) hx hb dX0_itemAt_11 (by decide) ?_
    obtain rfl := o_ret hf
    exact k_iret hx hb hr hP hD hS (Nat.zero_le _) (Nat.zero_le _) hlocks dX0_itemAt_12
noncomputable def mX0_lasts_s26 (c1 : Int32) (s26 : Int32 × KS) : Option ((KS) ⊕ (Int32 × KS)) :=
  if c1 ≤ s26.1 then
  (some (.inl s26.2))
  else
  ((mX5_set 120 (gR s26.2 8) (gI s26.2 6) (gI s26.2 8)).bind fun r43 =>
  (mX5_set 120 (gR s26.2 9) (gI s26.2 6) (gI s26.2 9)).bind fun r58 =>
  some (.inr ((s26.1 + 1), (sR (sR (sI s26.2 6 ((gI s26.2 6) + 1)) 8 r43) 9 r58))))
noncomputable def mX0_lasts (u : KS) (a1 : Int32) : Option (Int32 × KS) :=
  if a1 < 1 then
  (some (0, u))
  else
  (if 60 < a1 then
  (some (0, u))
  else
  (if ((gI u 6) + a1) ≤ 120 then
  ((lpF (mX0_lasts_s26 a1) (0, u)).bind fun e26 =>
  some (1, e26))
  else
  (some (0, u))))
abbrev rmX0_lasts : Room := { frames := 1, cells := 0, slots := 0, locals := 22 }
set_option maxRecDepth 100000 in
set_option maxHeartbeats 4000000 in
theorem zX0_lasts (l : Launch) (D : va_G) (cy : Nat → ClassId) (sa : Nat → Nat) (q : Nat → Nat) (rest : va_W) (sz : Nat) (u : KS) (a1 : Int32) (res : Int32 × KS) (hf : mX0_lasts u a1 = some res) : kMi l yX0_lasts (wsK yX0_lasts cX0_lasts 3 (some .boolean)) rmX0_lasts D cy sa (WX q cy u ++ rest) sz [.ref (q 10), .int a1] res.1 (WX q cy res.2 ++ rest) 0 0 := by
  refine kM_of (Qc := fun A => kQi D A res.1 (WX q cy res.2 ++ rest)) (cc := cX0_lasts) (maxL := 3) (ret := (some .boolean)) (by decide) (Nat.le_of_ble_eq_true rfl) ?_
  intro p e s m below meth c A hx hb hml hr hts hown hlocks hin hA hP hD hS hE hsz ls hl
  have hown : s.vm.findClass RX0 = some m.cls := hown
  obtain ⟨H, hH0⟩ : ∃ H, H = s.heap := ⟨_, rfl⟩
  obtain ⟨locs, hlocs0⟩ : ∃ locs : List Loc, locs = [] := ⟨_, rfl⟩
  have hP : va_P D vwCl (WX q cy u ++ rest) H := by rw [hH0]; exact hP
  have hS : va_S A s.heap H locs := by rw [hH0, hlocs0]; exact hS
  have hl : lv_has ls 3 [(0, .ref (q 10)), (1, .int a1)] := hl
  suffices hgoal : W p l e rmX0_lasts s m ([.ref (q 10), .int a1] : List Value).toArray below meth c H locs 0 0 (MQ below (kQi D A res.1 (WX q cy res.2 ++ rest)) ([.ref (q 10), .int a1] : List Value).toArray s 0 0 A) (F0 m 0 ls []) by rw [hH0, hlocs0] at hgoal; exact hgoal
  clear hH0 hlocs0
  unfold mX0_lasts at hf
  refine lv_iload_n hx hb dX0_lasts_0 rfl (lv_at hl 1 rfl) ?_
  refine lv_iconst (v := 1) hx hb dX0_lasts_1 (by decide) ?_
  refine lv_icmp_lt (tgt := 22) hx hb dX0_lasts_2 (by decide) (fun c2 => ?_) (fun c2 => ?_)
  · have hf := o_ip c2 hf
    refine lv_iconst (v := 0) hx hb dX0_lasts_22 (by decide) ?_
    obtain rfl := o_ret hf
    exact k_zret (v := 0) hx hb hr hP hD hS rfl (Nat.zero_le _) (Nat.zero_le _) hlocks dX0_lasts_23
  · have hf := o_in c2 hf
    refine lv_iload_n hx hb dX0_lasts_5 rfl (lv_at hl 1 rfl) ?_
    refine lv_bipush (v := 60) hx hb dX0_lasts_6 (by decide) ?_
    refine lv_icmp_gt (tgt := 22) hx hb dX0_lasts_8 (by decide) (fun c8 => ?_) (fun c8 => ?_)
    · have hf := o_ip c8 hf
      refine lv_iconst (v := 0) hx hb dX0_lasts_22 (by decide) ?_
      obtain rfl := o_ret hf
      exact k_zret (v := 0) hx hb hr hP hD hS rfl (Nat.zero_le _) (Nat.zero_le _) hlocks dX0_lasts_23
    · have hf := o_in c8 hf
      refine lv_aload_n hx hb dX0_lasts_11 rfl (lv_at hl 0 rfl) ?_
      refine va_get (ci := 0) (v := .int (gI u 6)) (C := RX0) (T := TX0) (N := 9) hx hb hts inlX0 hown hE.1 hP 10 rfl rfl 1 (by decide) (hts _ wB155) (fun _ h9 => h9) rfl dX0_lasts_12 ?_
      refine lv_iload_n hx hb dX0_lasts_15 rfl (lv_at hl 1 rfl) ?_
      refine lv_iadd hx hb dX0_lasts_16 ?_
      refine lv_bipush (v := 120) hx hb dX0_lasts_17 (by decide) ?_
      refine lv_icmp_le (tgt := 24) hx hb dX0_lasts_19 (by decide) (fun c19 => ?_) (fun c19 => ?_)
      · have hf := o_ip c19 hf
        refine lv_iconst (v := 0) hx hb dX0_lasts_24 (by decide) ?_
        refine lv_istore_n (lv' := [(2, .int 0), (0, .ref (q 10)), (1, .int a1)]) hx hb dX0_lasts_25 rfl hl (by decide) rfl (fun ls hl => ?_)
        have L26 : ∀ (n26v : Nat) (s26 : Int32 × KS) (e26 : KS), lpO (mX0_lasts_s26 a1) n26v s26 = some e26 → ∀ (H : Heap) (locs : List Loc) (ls : Array Slot), va_P D vwCl (WX q cy s26.2 ++ rest) H → va_D A (WX q cy s26.2 ++ rest) → va_S A s.heap H locs → lv_has ls 3 [(0, .ref (q 10)), (1, .int a1), (2, .int s26.1)] → (∀ (H : Heap) (locs : List Loc) (ls : Array Slot), va_P D vwCl (WX q cy e26 ++ rest) H → va_D A (WX q cy e26 ++ rest) → va_S A s.heap H locs → lv_has ls 3 [] → W p l e rmX0_lasts s m ([.ref (q 10), .int a1] : List Value).toArray below meth c H locs 0 0 (MQ below (kQi D A res.1 (WX q cy res.2 ++ rest)) ([.ref (q 10), .int a1] : List Value).toArray s 0 0 A) (F0 m 77 ls [])) → W p l e rmX0_lasts s m ([.ref (q 10), .int a1] : List Value).toArray below meth c H locs 0 0 (MQ below (kQi D A res.1 (WX q cy res.2 ++ rest)) ([.ref (q 10), .int a1] : List Value).toArray s 0 0 A) (F0 m 26 ls []) := by
          intro n26v
          induction n26v with
          | zero => intro s26 e26 h; exact (lpO_z h).elim
          | succ n26v ih26 =>
            intro s26 e26 h26z H locs ls hP hD hS hl K26_0
            obtain ⟨x26, hf, h26z⟩ := lpO_s h26z
            unfold mX0_lasts_s26 at hf
            refine lv_iload_n hx hb dX0_lasts_26 rfl (lv_at hl 2 rfl) ?_
            refine lv_iload_n hx hb dX0_lasts_27 rfl (lv_at hl 1 rfl) ?_
            refine lv_icmp_ge (tgt := 77) hx hb dX0_lasts_28 (by decide) (fun c28 => ?_) (fun c28 => ?_)
            · have hf := o_ip c28 hf
              obtain rfl := o_ret hf
              obtain rfl := lpK_l h26z
              exact K26_0 _ _ _ hP hD hS (lv_sub hl [] rfl)
            · have hf := o_in c28 hf
              refine lv_aload_n hx hb dX0_lasts_31 rfl (lv_at hl 0 rfl) ?_
              refine va_get (ci := 0) (v := .ref (q 12)) (C := RX0) (T := TX0) (N := 9) hx hb hts inlX0 hown hE.1 hP 10 rfl rfl 3 (by decide) (hts _ wB52) (fun _ h9 => h9) rfl dX0_lasts_32 ?_
              refine lv_aload_n hx hb dX0_lasts_35 rfl (lv_at hl 0 rfl) ?_
              refine va_get (ci := 0) (v := .int (gI s26.2 6)) (C := RX0) (T := TX0) (N := 9) hx hb hts inlX0 hown hE.1 hP 10 rfl rfl 1 (by decide) (hts _ wB155) (fun _ h9 => h9) rfl dX0_lasts_36 ?_
              refine lv_aload_n hx hb dX0_lasts_39 rfl (lv_at hl 0 rfl) ?_
              refine va_get (ci := 0) (v := .int (gI s26.2 8)) (C := RX0) (T := TX0) (N := 9) hx hb hts inlX0 hown hE.1 hP 10 rfl rfl 7 (by decide) (hts _ wB170) (fun _ h9 => h9) rfl dX0_lasts_40 ?_
              obtain ⟨r43, h43r, hf⟩ := o_bs hf
              refine k_gov (va_runSN (As := [.ref (q 12), .int (gI s26.2 6), .int (gI s26.2 8)]) (rest := []) ⟨hx, hb, hml, hown, hts⟩ (zX5_set l D cy sa (WX q cy s26.2 ++ rest) H.size 12 (q 12) 120 (gR s26.2 8) (gI s26.2 6) (gI s26.2 8) r43 rfl h43r) ⟨va_cnB 3 hts (gB_K wB115) rfl rfl rfl (hE.2.1.1 _ (List.mem_of_getElem? (i := 5) rfl)) (hts _ wB2) (by decide +kernel) ⟨Nat.le_of_ble_eq_true rfl, Nat.le_of_ble_eq_true rfl⟩, hts _ wB114, trivial⟩ ⟨kP.blind, k_pre hP hD hS hE hA⟩ rfl rfl hl.1 rfl (lv_room (Nat.le_of_ble_eq_true rfl)) dX0_lasts_43 ⟨Nat.zero_le _, Nat.zero_le _⟩) hD hS hA (fun H locs hP hD hS => ?_)
              have hP : va_P D vwCl (WX q cy (sR s26.2 8 r43) ++ rest) H := hP
              have hD : va_D A (WX q cy (sR s26.2 8 r43) ++ rest) := hD
              refine lv_aload_n hx hb dX0_lasts_46 rfl (lv_at hl 0 rfl) ?_
              refine va_get (ci := 0) (v := .ref (q 13)) (C := RX0) (T := TX0) (N := 9) hx hb hts inlX0 hown hE.1 hP 10 rfl rfl 4 (by decide) (hts _ wB53) (fun _ h9 => h9) rfl dX0_lasts_47 ?_
              refine lv_aload_n hx hb dX0_lasts_50 rfl (lv_at hl 0 rfl) ?_
              refine va_get (ci := 0) (v := .int (gI s26.2 6)) (C := RX0) (T := TX0) (N := 9) hx hb hts inlX0 hown hE.1 hP 10 rfl rfl 1 (by decide) (hts _ wB155) (fun _ h9 => h9) rfl dX0_lasts_51 ?_
              refine lv_aload_n hx hb dX0_lasts_54 rfl (lv_at hl 0 rfl) ?_
              refine va_get (ci := 0) (v := .int (gI s26.2 9)) (C := RX0) (T := TX0) (N := 9) hx hb hts inlX0 hown hE.1 hP 10 rfl rfl 8 (by decide) (hts _ wB171) (fun _ h9 => h9) rfl dX0_lasts_55 ?_
              obtain ⟨r58, h58r, hf⟩ := o_bs hf
              refine k_gov (va_runSN (As := [.ref (q 13), .int (gI s26.2 6), .int (gI s26.2 9)]) (rest := []) ⟨hx, hb, hml, hown, hts⟩ (zX5_set l D cy sa (WX q cy (sR s26.2 8 r43) ++ rest) H.size 13 (q 13) 120 (gR s26.2 9) (gI s26.2 6) (gI s26.2 9) r58 rfl h58r) ⟨va_cnB 3 hts (gB_K wB115) rfl rfl rfl (hE.2.1.1 _ (List.mem_of_getElem? (i := 5) rfl)) (hts _ wB2) (by decide +kernel) ⟨Nat.le_of_ble_eq_true rfl, Nat.le_of_ble_eq_true rfl⟩, hts _ wB114, trivial⟩ ⟨kP.blind, k_pre hP hD hS hE hA⟩ rfl rfl hl.1 rfl (lv_room (Nat.le_of_ble_eq_true rfl)) dX0_lasts_58 ⟨Nat.zero_le _, Nat.zero_le _⟩) hD hS hA (fun H locs hP hD hS => ?_)
              have hQ : ∀ (xb : KS) (x0 : (Nat → Int32)) (xn : (Nat → Int32)), (WX q cy (sR xb 8 x0) ++ rest).set 13 (q 13, .inl (cy 0, 120, .inl xn)) = WX q cy (sR (sR xb 8 x0) 9 xn) ++ rest := fun _ _ _ => rfl
              have hP : va_P D vwCl (WX q cy (sR (sR s26.2 8 r43) 9 r58) ++ rest) H := k_wP (hQ s26.2 r43 r58) hP
              have hD : va_D A (WX q cy (sR (sR s26.2 8 r43) 9 r58) ++ rest) := k_wD (hQ s26.2 r43 r58) hD
              clear hQ
              refine lv_aload_n hx hb dX0_lasts_61 rfl (lv_at hl 0 rfl) ?_
              refine lv_dup hx hb dX0_lasts_62 rfl ?_
              refine va_get (ci := 0) (v := .int (gI s26.2 6)) (C := RX0) (T := TX0) (N := 9) hx hb hts inlX0 hown hE.1 hP 10 rfl rfl 1 (by decide) (hts _ wB155) (fun _ h9 => h9) rfl dX0_lasts_63 ?_
              refine lv_iconst (v := 1) hx hb dX0_lasts_66 (by decide) ?_
              refine lv_iadd hx hb dX0_lasts_67 ?_
              refine va_put (ci := 0) (v := .int ((gI s26.2 6) + 1)) (ty := .int) (C := RX0) (T := TX0) (N := 9) hx hb hts inlX0 tyX0 tyX0_ok nmX0 hown hE.1 hP hD hS 10 rfl rfl 1 (by decide) (hts _ wB155) (fun _ h9 => h9) rfl (by decide +kernel) rfl rfl (Nat.le_of_ble_eq_true rfl) dX0_lasts_68 (fun H locs hP hD hS => ?_)
              have hQ : ∀ (xb : KS) (x0 : (Nat → Int32)) (x1 : (Nat → Int32)) (xn : Int32), (WX q cy (sR (sR xb 8 x0) 9 x1) ++ rest).set 10 (q 10, .inr (0, [.int (gI (sR (sR xb 8 x0) 9 x1) 5), .int (gI (sR (sR xb 8 x0) 9 x1) 6), .ref (q 11), .ref (q 12), .ref (q 13), .ref (q 14), .int (gI (sR (sR xb 8 x0) 9 x1) 7), .int (gI (sR (sR xb 8 x0) 9 x1) 8), .int (gI (sR (sR xb 8 x0) 9 x1) 9)].set 1 (.int xn))) = WX q cy (sR (sR (sI xb 6 xn) 8 x0) 9 x1) ++ rest := fun _ _ _ _ => rfl
              have hP : va_P D vwCl (WX q cy (sR (sR (sI s26.2 6 ((gI s26.2 6) + 1)) 8 r43) 9 r58) ++ rest) H := k_wP (hQ s26.2 r43 r58 ((gI s26.2 6) + 1)) hP
              have hD : va_D A (WX q cy (sR (sR (sI s26.2 6 ((gI s26.2 6) + 1)) 8 r43) 9 r58) ++ rest) := k_wD (hQ s26.2 r43 r58 ((gI s26.2 6) + 1)) hD
              clear hQ
              refine lv_iinc (v := (s26.1 + 1)) (lv' := [(2, .int (s26.1 + 1)), (0, .ref (q 10)), (1, .int a1)]) hx hb dX0_lasts_71 hl (k := 2) rfl (by rfl) (by decide) rfl (fun ls hl => ?_)
              refine lv_goto (tgt := 26) hx hb dX0_lasts_74 (by decide) ?_
              obtain rfl := o_ret hf
              exact ih26 _ _ (lpK_r h26z) _ _ _ hP hD hS (lv_sub hl [1, 2, 0] rfl) K26_0
        obtain ⟨e26, h26q, hf⟩ := o_bs hf
        obtain ⟨n26v, h26q⟩ := lpF_ex h26q
        refine L26 n26v _ e26 h26q _ _ _ hP hD hS (lv_sub hl [1, 2, 0] rfl) ?_
        intro H locs ls hP hD hS hl
        refine lv_iconst (v := 1) hx hb dX0_lasts_77 (by decide) ?_
        obtain rfl := o_ret hf
        exact k_zret (v := 1) hx hb hr hP hD hS rfl (Nat.zero_le _) (Nat.zero_le _) hlocks dX0_lasts_78
      · have hf := o_in c19 hf
        refine lv_iconst (v := 0) hx hb dX0_lasts_22 (by decide) ?_
        obtain rfl := o_ret hf
        exact k_zret (v := 0) hx hb hr hP hD hS rfl (Nat.zero_le _) (Nat.zero_le _) hlocks dX0_lasts_23
noncomputable def mX0_numberAt_s26 (n0 : Nat) (f0 : Nat → Int32) (c2 : Int32) (s26 : Int32 × Int32) : Option ((Int32) ⊕ (Int32 × Int32)) :=
  if c2 ≤ s26.2 then
  (some (.inl s26.1))
  else
  ((mX5_at n0 f0 s26.2).bind fun r39 =>
  some (.inr ((((10 * s26.1) + r39) - 48), (s26.2 + 1))))
noncomputable def mX0_numberAt (n0 : Nat) (f0 : Nat → Int32) (a1 : Int32) (a2 : Int32) : Option (Int32) :=
  (mX5_at n0 f0 a1).bind fun r2 =>
  (mX0_sortOf r2).bind fun r5 =>
  if r5 = 2 then
  (if (a2 - a1) ≤ 2 then
  ((lpF (mX0_numberAt_s26 n0 f0 a2) (0, a1)).bind fun e26 =>
  some e26)
  else
  (some (-1)))
  else
  (some (-1))
abbrev rmX0_numberAt : Room := { frames := 1, cells := 0, slots := 0, locals := 21 }
set_option maxRecDepth 100000 in
set_option maxHeartbeats 4000000 in
theorem zX0_numberAt (l : Launch) (D : va_G) (cy : Nat → ClassId) (sa : Nat → Nat) (ws : va_W) (sz : Nat) (k0 d0 n0 : Nat) (f0 : Nat → Int32) (a1 : Int32) (a2 : Int32) (res : Int32) (ha0 : ws[k0]? = some (kII d0 (cy 0) n0 f0)) (hf : mX0_numberAt n0 f0 a1 a2 = some res) : kMi l yX0_numberAt (wsK yX0_numberAt cX0_numberAt 5 (some .int)) rmX0_numberAt D cy sa (ws) sz [.ref d0, .int a1, .int a2] res (ws) 0 0 := by
  refine kM_of (Qc := fun A => kQi D A res (ws)) (cc := cX0_numberAt) (maxL := 5) (ret := (some .int)) (by decide) (Nat.le_of_ble_eq_true rfl) ?_
  intro p e s m below meth c A hx hb hml hr hts hown hlocks hin hA hP hD hS hE hsz ls hl
  have hown : s.vm.findClass RX0 = some m.cls := hown
  obtain ⟨H, hH0⟩ : ∃ H, H = s.heap := ⟨_, rfl⟩
  obtain ⟨locs, hlocs0⟩ : ∃ locs : List Loc, locs = [] := ⟨_, rfl⟩
  have hP : va_P D vwCl (ws) H := by rw [hH0]; exact hP
  have hS : va_S A s.heap H locs := by rw [hH0, hlocs0]; exact hS
  have hl : lv_has ls 5 [(0, .ref d0), (1, .int a1), (2, .int a2)] := hl
  suffices hgoal : W p l e rmX0_numberAt s m ([.ref d0, .int a1, .int a2] : List Value).toArray below meth c H locs 0 0 (MQ below (kQi D A res (ws)) ([.ref d0, .int a1, .int a2] : List Value).toArray s 0 0 A) (F0 m 0 ls []) by rw [hH0, hlocs0] at hgoal; exact hgoal
  clear hH0 hlocs0
  unfold mX0_numberAt at hf
  refine lv_aload_n hx hb dX0_numberAt_0 rfl (lv_at hl 0 rfl) ?_
  refine lv_iload_n hx hb dX0_numberAt_1 rfl (lv_at hl 1 rfl) ?_
  obtain ⟨r2, h2r, hf⟩ := o_bs hf
  refine k_goi (va_runSN (As := [.ref d0, .int a1]) (rest := []) ⟨hx, hb, hml, hown, hts⟩ (zX5_at l D cy sa (ws) H.size k0 d0 n0 f0 a1 r2 ha0 h2r) ⟨va_cnB 2 hts (gB_K wB112) rfl rfl rfl (hE.2.1.1 _ (List.mem_of_getElem? (i := 4) rfl)) (hts _ wB2) (by decide +kernel) ⟨Nat.le_of_ble_eq_true rfl, Nat.le_of_ble_eq_true rfl⟩, hts _ wB111, trivial⟩ ⟨kP.blind, k_pre hP hD hS hE hA⟩ rfl rfl hl.1 rfl (lv_room (Nat.le_of_ble_eq_true rfl)) dX0_numberAt_2 ⟨Nat.zero_le _, Nat.zero_le _⟩) hD hS hA (fun H locs hP hD hS => ?_)
  obtain ⟨r5, h5r, hf⟩ := o_bs hf
  refine k_goi (va_runS (As := [.int r2]) (rest := []) ⟨hx, hb, hml, hown, hts⟩ (zX0_sortOf l D cy sa (ws) H.size r2  r5  h5r) (va_cwS 1 hts (gB_S wB160 wB161 wB20 wB162) rfl rfl rfl (by decide +kernel) ⟨Nat.le_of_ble_eq_true rfl, Nat.le_of_ble_eq_true rfl⟩) ⟨kP.blind, k_pre hP hD hS hE hA⟩ rfl rfl hl.1 rfl (lv_room (Nat.le_of_ble_eq_true rfl)) dX0_numberAt_5 ⟨Nat.zero_le _, Nat.zero_le _⟩) hD hS hA (fun H locs hP hD hS => ?_)
  refine lv_iconst (v := 2) hx hb dX0_numberAt_8 (by decide) ?_
  refine lv_icmp_ne (tgt := 19) hx hb dX0_numberAt_9 (by decide) (fun c9 => ?_) (fun c9 => ?_)
  · have hf := o_in c9 hf
    refine lv_iconst (v := (-1)) hx hb dX0_numberAt_19 (by decide) ?_
    obtain rfl := o_ret hf
    exact k_iret hx hb hr hP hD hS (Nat.zero_le _) (Nat.zero_le _) hlocks dX0_numberAt_20
  · have hf := o_ip c9 hf
    refine lv_iload_n hx hb dX0_numberAt_12 rfl (lv_at hl 2 rfl) ?_
    refine lv_iload_n hx hb dX0_numberAt_13 rfl (lv_at hl 1 rfl) ?_
    refine lv_isub hx hb dX0_numberAt_14 ?_
    refine lv_iconst (v := 2) hx hb dX0_numberAt_15 (by decide) ?_
    refine lv_icmp_le (tgt := 21) hx hb dX0_numberAt_16 (by decide) (fun c16 => ?_) (fun c16 => ?_)
    · have hf := o_ip c16 hf
      refine lv_iconst (v := 0) hx hb dX0_numberAt_21 (by decide) ?_
      refine lv_istore_n (lv' := [(3, .int 0), (0, .ref d0), (1, .int a1), (2, .int a2)]) hx hb dX0_numberAt_22 rfl hl (by decide) rfl (fun ls hl => ?_)
      refine lv_iload_n hx hb dX0_numberAt_23 rfl (lv_at hl 2 rfl) ?_
      refine lv_istore (lv' := [(4, .int a1), (3, .int 0), (0, .ref d0), (1, .int a1), (2, .int a2)]) hx hb dX0_numberAt_24 hl (by decide) rfl (fun ls hl => ?_)
      have L26 : ∀ (n26v : Nat) (s26 : Int32 × Int32) (e26 : Int32), lpO (mX0_numberAt_s26 n0 f0 a2) n26v s26 = some e26 → ∀ (H : Heap) (locs : List Loc) (ls : Array Slot), va_P D vwCl (ws) H → va_D A (ws) → va_S A s.heap H locs → lv_has ls 5 [(0, .ref d0), (2, .int a2), (3, .int s26.1), (4, .int s26.2)] → (∀ (H : Heap) (locs : List Loc) (ls : Array Slot), va_P D vwCl (ws) H → va_D A (ws) → va_S A s.heap H locs → lv_has ls 5 [(3, .int e26)] → W p l e rmX0_numberAt s m ([.ref d0, .int a1, .int a2] : List Value).toArray below meth c H locs 0 0 (MQ below (kQi D A res (ws)) ([.ref d0, .int a1, .int a2] : List Value).toArray s 0 0 A) (F0 m 53 ls [])) → W p l e rmX0_numberAt s m ([.ref d0, .int a1, .int a2] : List Value).toArray below meth c H locs 0 0 (MQ below (kQi D A res (ws)) ([.ref d0, .int a1, .int a2] : List Value).toArray s 0 0 A) (F0 m 26 ls []) := by
        intro n26v
        induction n26v with
        | zero => intro s26 e26 h; exact (lpO_z h).elim
        | succ n26v ih26 =>
          intro s26 e26 h26z H locs ls hP hD hS hl K26_0
          obtain ⟨x26, hf, h26z⟩ := lpO_s h26z
          unfold mX0_numberAt_s26 at hf
          refine lv_iload hx hb dX0_numberAt_26 (lv_at hl 3 rfl) ?_
          refine lv_iload_n hx hb dX0_numberAt_28 rfl (lv_at hl 1 rfl) ?_
          refine lv_icmp_ge (tgt := 53) hx hb dX0_numberAt_29 (by decide) (fun c29 => ?_) (fun c29 => ?_)
          · have hf := o_ip c29 hf
            obtain rfl := o_ret hf
            obtain rfl := lpK_l h26z
            exact K26_0 _ _ _ hP hD hS (lv_sub hl [2] rfl)
          · have hf := o_in c29 hf
            refine lv_bipush (v := 10) hx hb dX0_numberAt_32 (by decide) ?_
            refine lv_iload_n hx hb dX0_numberAt_34 rfl (lv_at hl 2 rfl) ?_
            refine lv_imul hx hb dX0_numberAt_35 ?_
            refine lv_aload_n hx hb dX0_numberAt_36 rfl (lv_at hl 0 rfl) ?_
            refine lv_iload hx hb dX0_numberAt_37 (lv_at hl 3 rfl) ?_
            obtain ⟨r39, h39r, hf⟩ := o_bs hf
            refine k_goi (va_runSN (As := [.ref d0, .int s26.2]) (rest := [.int (10 * s26.1)]) ⟨hx, hb, hml, hown, hts⟩ (zX5_at l D cy sa (ws) H.size k0 d0 n0 f0 s26.2 r39 ha0 h39r) ⟨va_cnB 2 hts (gB_K wB112) rfl rfl rfl (hE.2.1.1 _ (List.mem_of_getElem? (i := 4) rfl)) (hts _ wB2) (by decide +kernel) ⟨Nat.le_of_ble_eq_true rfl, Nat.le_of_ble_eq_true rfl⟩, hts _ wB111, trivial⟩ ⟨kP.blind, k_pre hP hD hS hE hA⟩ rfl rfl hl.1 rfl (lv_room (Nat.le_of_ble_eq_true rfl)) dX0_numberAt_39 ⟨Nat.zero_le _, Nat.zero_le _⟩) hD hS hA (fun H locs hP hD hS => ?_)
            refine lv_iadd hx hb dX0_numberAt_42 ?_
            refine lv_bipush (v := 48) hx hb dX0_numberAt_43 (by decide) ?_
            refine lv_isub hx hb dX0_numberAt_45 ?_
            refine lv_istore_n (lv' := [(3, .int (((10 * s26.1) + r39) - 48)), (0, .ref d0), (2, .int a2), (4, .int s26.2)]) hx hb dX0_numberAt_46 rfl hl (by decide) rfl (fun ls hl => ?_)
            refine lv_iinc (v := (s26.2 + 1)) (lv' := [(4, .int (s26.2 + 1)), (3, .int (((10 * s26.1) + r39) - 48)), (0, .ref d0), (2, .int a2)]) hx hb dX0_numberAt_47 hl (k := 3) rfl (by rfl) (by decide) rfl (fun ls hl => ?_)
            refine lv_goto (tgt := 26) hx hb dX0_numberAt_50 (by decide) ?_
            obtain rfl := o_ret hf
            exact ih26 _ _ (lpK_r h26z) _ _ _ hP hD hS (lv_sub hl [2, 3, 1, 0] rfl) K26_0
      obtain ⟨e26, h26q, hf⟩ := o_bs hf
      obtain ⟨n26v, h26q⟩ := lpF_ex h26q
      refine L26 n26v _ e26 h26q _ _ _ hP hD hS (lv_sub hl [2, 4, 1, 0] rfl) ?_
      intro H locs ls hP hD hS hl
      refine lv_iload_n hx hb dX0_numberAt_53 rfl (lv_at hl 0 rfl) ?_
      obtain rfl := o_ret hf
      exact k_iret hx hb hr hP hD hS (Nat.zero_le _) (Nat.zero_le _) hlocks dX0_numberAt_54
    · have hf := o_in c16 hf
      refine lv_iconst (v := (-1)) hx hb dX0_numberAt_19 (by decide) ?_
      obtain rfl := o_ret hf
      exact k_iret hx hb hr hP hD hS (Nat.zero_le _) (Nat.zero_le _) hlocks dX0_numberAt_20
noncomputable def mX0_tokenEnd_s14 (n0 : Nat) (f0 : Nat → Int32) (c2 : Int32) (c3 : Int32) (s14 : Int32) : Option ((Int32) ⊕ (Int32)) :=
  if c3 = 3 then
  (some (.inl s14))
  else
  (if c2 ≤ s14 then
  (some (.inl s14))
  else
  ((mX5_at n0 f0 s14).bind fun r28 =>
  (mX0_sortOf r28).bind fun r31 =>
  if r31 = c3 then
  (some (.inr (s14 + 1)))
  else
  (some (.inl s14))))
noncomputable def mX0_tokenEnd (n0 : Nat) (f0 : Nat → Int32) (a1 : Int32) (a2 : Int32) : Option (Int32) :=
  (mX5_at n0 f0 a1).bind fun r2 =>
  (mX0_sortOf r2).bind fun r5 =>
  (lpF (mX0_tokenEnd_s14 n0 f0 a2 r5) (a1 + 1)).bind fun e14 =>
  some e14
abbrev rmX0_tokenEnd : Room := { frames := 1, cells := 0, slots := 0, locals := 21 }
set_option maxRecDepth 100000 in
set_option maxHeartbeats 4000000 in
theorem zX0_tokenEnd (l : Launch) (D : va_G) (cy : Nat → ClassId) (sa : Nat → Nat) (ws : va_W) (sz : Nat) (k0 d0 n0 : Nat) (f0 : Nat → Int32) (a1 : Int32) (a2 : Int32) (res : Int32) (ha0 : ws[k0]? = some (kII d0 (cy 0) n0 f0)) (hf : mX0_tokenEnd n0 f0 a1 a2 = some res) : kMi l yX0_tokenEnd (wsK yX0_tokenEnd cX0_tokenEnd 5 (some .int)) rmX0_tokenEnd D cy sa (ws) sz [.ref d0, .int a1, .int a2] res (ws) 0 0 := by
  refine kM_of (Qc := fun A => kQi D A res (ws)) (cc := cX0_tokenEnd) (maxL := 5) (ret := (some .int)) (by decide) (Nat.le_of_ble_eq_true rfl) ?_
  intro p e s m below meth c A hx hb hml hr hts hown hlocks hin hA hP hD hS hE hsz ls hl
  have hown : s.vm.findClass RX0 = some m.cls := hown
  obtain ⟨H, hH0⟩ : ∃ H, H = s.heap := ⟨_, rfl⟩
  obtain ⟨locs, hlocs0⟩ : ∃ locs : List Loc, locs = [] := ⟨_, rfl⟩
  have hP : va_P D vwCl (ws) H := by rw [hH0]; exact hP
  have hS : va_S A s.heap H locs := by rw [hH0, hlocs0]; exact hS
  have hl : lv_has ls 5 [(0, .ref d0), (1, .int a1), (2, .int a2)] := hl
  suffices hgoal : W p l e rmX0_tokenEnd s m ([.ref d0, .int a1, .int a2] : List Value).toArray below meth c H locs 0 0 (MQ below (kQi D A res (ws)) ([.ref d0, .int a1, .int a2] : List Value).toArray s 0 0 A) (F0 m 0 ls []) by rw [hH0, hlocs0] at hgoal; exact hgoal
  clear hH0 hlocs0
  unfold mX0_tokenEnd at hf
  refine lv_aload_n hx hb dX0_tokenEnd_0 rfl (lv_at hl 0 rfl) ?_
  refine lv_iload_n hx hb dX0_tokenEnd_1 rfl (lv_at hl 1 rfl) ?_
  obtain ⟨r2, h2r, hf⟩ := o_bs hf
  refine k_goi (va_runSN (As := [.ref d0, .int a1]) (rest := []) ⟨hx, hb, hml, hown, hts⟩ (zX5_at l D cy sa (ws) H.size k0 d0 n0 f0 a1 r2 ha0 h2r) ⟨va_cnB 2 hts (gB_K wB112) rfl rfl rfl (hE.2.1.1 _ (List.mem_of_getElem? (i := 4) rfl)) (hts _ wB2) (by decide +kernel) ⟨Nat.le_of_ble_eq_true rfl, Nat.le_of_ble_eq_true rfl⟩, hts _ wB111, trivial⟩ ⟨kP.blind, k_pre hP hD hS hE hA⟩ rfl rfl hl.1 rfl (lv_room (Nat.le_of_ble_eq_true rfl)) dX0_tokenEnd_2 ⟨Nat.zero_le _, Nat.zero_le _⟩) hD hS hA (fun H locs hP hD hS => ?_)
  obtain ⟨r5, h5r, hf⟩ := o_bs hf
  refine k_goi (va_runS (As := [.int r2]) (rest := []) ⟨hx, hb, hml, hown, hts⟩ (zX0_sortOf l D cy sa (ws) H.size r2  r5  h5r) (va_cwS 1 hts (gB_S wB160 wB161 wB20 wB162) rfl rfl rfl (by decide +kernel) ⟨Nat.le_of_ble_eq_true rfl, Nat.le_of_ble_eq_true rfl⟩) ⟨kP.blind, k_pre hP hD hS hE hA⟩ rfl rfl hl.1 rfl (lv_room (Nat.le_of_ble_eq_true rfl)) dX0_tokenEnd_5 ⟨Nat.zero_le _, Nat.zero_le _⟩) hD hS hA (fun H locs hP hD hS => ?_)
  refine lv_istore_n (lv' := [(3, .int r5), (0, .ref d0), (1, .int a1), (2, .int a2)]) hx hb dX0_tokenEnd_8 rfl hl (by decide) rfl (fun ls hl => ?_)
  refine lv_iload_n hx hb dX0_tokenEnd_9 rfl (lv_at hl 2 rfl) ?_
  refine lv_iconst (v := 1) hx hb dX0_tokenEnd_10 (by decide) ?_
  refine lv_iadd hx hb dX0_tokenEnd_11 ?_
  refine lv_istore (lv' := [(4, .int (a1 + 1)), (3, .int r5), (0, .ref d0), (1, .int a1), (2, .int a2)]) hx hb dX0_tokenEnd_12 hl (by decide) rfl (fun ls hl => ?_)
  have L14 : ∀ (n14v : Nat) (s14 : Int32) (e14 : Int32), lpO (mX0_tokenEnd_s14 n0 f0 a2 r5) n14v s14 = some e14 → ∀ (H : Heap) (locs : List Loc) (ls : Array Slot), va_P D vwCl (ws) H → va_D A (ws) → va_S A s.heap H locs → lv_has ls 5 [(0, .ref d0), (2, .int a2), (3, .int r5), (4, .int s14)] → (∀ (H : Heap) (locs : List Loc) (ls : Array Slot), va_P D vwCl (ws) H → va_D A (ws) → va_S A s.heap H locs → lv_has ls 5 [(4, .int e14)] → W p l e rmX0_tokenEnd s m ([.ref d0, .int a1, .int a2] : List Value).toArray below meth c H locs 0 0 (MQ below (kQi D A res (ws)) ([.ref d0, .int a1, .int a2] : List Value).toArray s 0 0 A) (F0 m 44 ls [])) → W p l e rmX0_tokenEnd s m ([.ref d0, .int a1, .int a2] : List Value).toArray below meth c H locs 0 0 (MQ below (kQi D A res (ws)) ([.ref d0, .int a1, .int a2] : List Value).toArray s 0 0 A) (F0 m 14 ls []) := by
    intro n14v
    induction n14v with
    | zero => intro s14 e14 h; exact (lpO_z h).elim
    | succ n14v ih14 =>
      intro s14 e14 h14z H locs ls hP hD hS hl K14_0
      obtain ⟨x14, hf, h14z⟩ := lpO_s h14z
      unfold mX0_tokenEnd_s14 at hf
      refine lv_iload_n hx hb dX0_tokenEnd_14 rfl (lv_at hl 2 rfl) ?_
      refine lv_iconst (v := 3) hx hb dX0_tokenEnd_15 (by decide) ?_
      refine lv_icmp_eq (tgt := 44) hx hb dX0_tokenEnd_16 (by decide) (fun c16 => ?_) (fun c16 => ?_)
      · have hf := o_ip c16 hf
        obtain rfl := o_ret hf
        obtain rfl := lpK_l h14z
        exact K14_0 _ _ _ hP hD hS (lv_sub hl [3] rfl)
      · have hf := o_in c16 hf
        refine lv_iload hx hb dX0_tokenEnd_19 (lv_at hl 3 rfl) ?_
        refine lv_iload_n hx hb dX0_tokenEnd_21 rfl (lv_at hl 1 rfl) ?_
        refine lv_icmp_ge (tgt := 44) hx hb dX0_tokenEnd_22 (by decide) (fun c22 => ?_) (fun c22 => ?_)
        · have hf := o_ip c22 hf
          obtain rfl := o_ret hf
          obtain rfl := lpK_l h14z
          exact K14_0 _ _ _ hP hD hS (lv_sub hl [3] rfl)
        · have hf := o_in c22 hf
          refine lv_aload_n hx hb dX0_tokenEnd_25 rfl (lv_at hl 0 rfl) ?_
          refine lv_iload hx hb dX0_tokenEnd_26 (lv_at hl 3 rfl) ?_
          obtain ⟨r28, h28r, hf⟩ := o_bs hf
          refine k_goi (va_runSN (As := [.ref d0, .int s14]) (rest := []) ⟨hx, hb, hml, hown, hts⟩ (zX5_at l D cy sa (ws) H.size k0 d0 n0 f0 s14 r28 ha0 h28r) ⟨va_cnB 2 hts (gB_K wB112) rfl rfl rfl (hE.2.1.1 _ (List.mem_of_getElem? (i := 4) rfl)) (hts _ wB2) (by decide +kernel) ⟨Nat.le_of_ble_eq_true rfl, Nat.le_of_ble_eq_true rfl⟩, hts _ wB111, trivial⟩ ⟨kP.blind, k_pre hP hD hS hE hA⟩ rfl rfl hl.1 rfl (lv_room (Nat.le_of_ble_eq_true rfl)) dX0_tokenEnd_28 ⟨Nat.zero_le _, Nat.zero_le _⟩) hD hS hA (fun H locs hP hD hS => ?_)
          obtain ⟨r31, h31r, hf⟩ := o_bs hf
          refine k_goi (va_runS (As := [.int r28]) (rest := []) ⟨hx, hb, hml, hown, hts⟩ (zX0_sortOf l D cy sa (ws) H.size r28  r31  h31r) (va_cwS 1 hts (gB_S wB160 wB161 wB20 wB162) rfl rfl rfl (by decide +kernel) ⟨Nat.le_of_ble_eq_true rfl, Nat.le_of_ble_eq_true rfl⟩) ⟨kP.blind, k_pre hP hD hS hE hA⟩ rfl rfl hl.1 rfl (lv_room (Nat.le_of_ble_eq_true rfl)) dX0_tokenEnd_31 ⟨Nat.zero_le _, Nat.zero_le _⟩) hD hS hA (fun H locs hP hD hS => ?_)
          refine lv_iload_n hx hb dX0_tokenEnd_34 rfl (lv_at hl 2 rfl) ?_
          refine lv_icmp_ne (tgt := 44) hx hb dX0_tokenEnd_35 (by decide) (fun c35 => ?_) (fun c35 => ?_)
          · have hf := o_in c35 hf
            obtain rfl := o_ret hf
            obtain rfl := lpK_l h14z
            exact K14_0 _ _ _ hP hD hS (lv_sub hl [3] rfl)
          · have hf := o_ip c35 hf
            refine lv_iinc (v := (s14 + 1)) (lv' := [(4, .int (s14 + 1)), (0, .ref d0), (2, .int a2), (3, .int r5)]) hx hb dX0_tokenEnd_38 hl (k := 3) rfl (by rfl) (by decide) rfl (fun ls hl => ?_)
            refine lv_goto (tgt := 14) hx hb dX0_tokenEnd_41 (by decide) ?_
            obtain rfl := o_ret hf
            exact ih14 _ _ (lpK_r h14z) _ _ _ hP hD hS (lv_sub hl [1, 2, 3, 0] rfl) K14_0
  obtain ⟨e14, h14q, hf⟩ := o_bs hf
  obtain ⟨n14v, h14q⟩ := lpF_ex h14q
  refine L14 n14v _ e14 h14q _ _ _ hP hD hS (lv_sub hl [2, 4, 1, 0] rfl) ?_
  intro H locs ls hP hD hS hl
  refine lv_iload hx hb dX0_tokenEnd_44 (lv_at hl 0 rfl) ?_
  obtain rfl := o_ret hf
  exact k_iret hx hb hr hP hD hS (Nat.zero_le _) (Nat.zero_le _) hlocks dX0_tokenEnd_46
noncomputable def mX0_takesToken (u : KS) (a2 : Int32) (a3 : Int32) : Option (Int32 × KS) :=
  if (gI u 7) = 0 then
  ((mX0_itemAt 120 (gR u 1) a2 a3).bind fun r36 =>
  if r36 = 2 then
  (if r36 = (-1) then
  (some (0, (sI (sI (sI u 7 1) 8 r36) 9 0)))
  else
  (some (1, (sI (sI (sI u 7 1) 8 r36) 9 0))))
  else
  (if r36 = (-1) then
  (some (0, (sI (sI (sI u 7 2) 8 r36) 9 0)))
  else
  (some (1, (sI (sI (sI u 7 2) 8 r36) 9 0)))))
  else if (gI u 7) = 1 then
  ((mX0_numberAt 120 (gR u 1) a2 a3).bind fun r82 =>
  if r82 < 1 then
  (some (0, (sI (sI u 7 2) 9 r82)))
  else
  (if 9 < r82 then
  (some (0, (sI (sI u 7 2) 9 r82)))
  else
  (some (1, (sI (sI u 7 2) 9 r82)))))
  else if (gI u 7) = 2 then
  ((mX0_numberAt 120 (gR u 1) a2 a3).bind fun r125 =>
  (mX0_lasts (sI u 7 3) r125).bind fun r128 =>
  gd (r128.1 = 0 ∨ r128.1 = 1) (some (r128.1, r128.2)))
  else 
  ((mX5_at 120 (gR u 1) a2).bind fun r139 =>
  if r139 = 59 then
  (some (1, (sI u 7 0)))
  else
  (some (0, (sI u 7 0))))
abbrev rmX0_takesToken : Room := { frames := 6, cells := 0, slots := 0, locals := 131 }
set_option maxRecDepth 100000 in
set_option maxHeartbeats 4000000 in
theorem zX0_takesToken (l : Launch) (D : va_G) (cy : Nat → ClassId) (sa : Nat → Nat) (q : Nat → Nat) (rest : va_W) (sz : Nat) (u : KS) (a2 : Int32) (a3 : Int32) (res : Int32 × KS) (hf : mX0_takesToken u a2 a3 = some res) : kMi l yX0_takesToken (wsK yX0_takesToken cX0_takesToken 4 (some .boolean)) rmX0_takesToken D cy sa (WX q cy u ++ rest) sz [.ref (q 10), .ref (q 4), .int a2, .int a3] res.1 (WX q cy res.2 ++ rest) 0 0 := by
  refine kM_of (Qc := fun A => kQi D A res.1 (WX q cy res.2 ++ rest)) (cc := cX0_takesToken) (maxL := 4) (ret := (some .boolean)) (by decide) (Nat.le_of_ble_eq_true rfl) ?_
  intro p e s m below meth c A hx hb hml hr hts hown hlocks hin hA hP hD hS hE hsz ls hl
  have hown : s.vm.findClass RX0 = some m.cls := hown
  obtain ⟨H, hH0⟩ : ∃ H, H = s.heap := ⟨_, rfl⟩
  obtain ⟨locs, hlocs0⟩ : ∃ locs : List Loc, locs = [] := ⟨_, rfl⟩
  have hP : va_P D vwCl (WX q cy u ++ rest) H := by rw [hH0]; exact hP
  have hS : va_S A s.heap H locs := by rw [hH0, hlocs0]; exact hS
  have hl : lv_has ls 4 [(0, .ref (q 10)), (1, .ref (q 4)), (2, .int a2), (3, .int a3)] := hl
  suffices hgoal : W p l e rmX0_takesToken s m ([.ref (q 10), .ref (q 4), .int a2, .int a3] : List Value).toArray below meth c H locs 0 0 (MQ below (kQi D A res.1 (WX q cy res.2 ++ rest)) ([.ref (q 10), .ref (q 4), .int a2, .int a3] : List Value).toArray s 0 0 A) (F0 m 0 ls []) by rw [hH0, hlocs0] at hgoal; exact hgoal
  clear hH0 hlocs0
  unfold mX0_takesToken at hf
  refine lv_aload_n hx hb dX0_takesToken_0 rfl (lv_at hl 0 rfl) ?_
  refine va_get (ci := 0) (v := .int (gI u 7)) (C := RX0) (T := TX0) (N := 9) hx hb hts inlX0 hown hE.1 hP 10 rfl rfl 6 (by decide) (hts _ wB156) (fun _ h9 => h9) rfl dX0_takesToken_1 ?_
  by_cases c4_0 : (gI u 7) = 0
  · have hf := o_ip c4_0 hf
    refine lv_tableIn (tgt := 32) hx hb dX0_takesToken_4 (by rw [c4_0]; decide) (by rw [c4_0]; decide) (off := 28) (by rw [c4_0]; decide) (by decide) ?_
    refine lv_aload_n hx hb dX0_takesToken_32 rfl (lv_at hl 0 rfl) ?_
    refine lv_aload_n hx hb dX0_takesToken_33 rfl (lv_at hl 1 rfl) ?_
    refine lv_iload_n hx hb dX0_takesToken_34 rfl (lv_at hl 2 rfl) ?_
    refine lv_iload_n hx hb dX0_takesToken_35 rfl (lv_at hl 3 rfl) ?_
    obtain ⟨r36, h36r, hf⟩ := o_bs hf
    refine k_goi (va_runS (As := [.ref (q 4), .int a2, .int a3]) (rest := [.ref (q 10)]) ⟨hx, hb, hml, hown, hts⟩ (zX0_itemAt l D cy sa (WX q cy u ++ rest) H.size 4 (q 4) 120 (gR u 1) a2 a3 r36 rfl h36r) (va_cwS 3 hts (gB_S wB172 wB173 wB20 wB174) rfl rfl rfl (by decide +kernel) ⟨Nat.le_of_ble_eq_true rfl, Nat.le_of_ble_eq_true rfl⟩) ⟨kP.blind, k_pre hP hD hS hE hA⟩ rfl rfl hl.1 rfl (lv_room (Nat.le_of_ble_eq_true rfl)) dX0_takesToken_36 ⟨Nat.zero_le _, Nat.zero_le _⟩) hD hS hA (fun H locs hP hD hS => ?_)
    refine va_put (ci := 0) (v := .int r36) (ty := .int) (C := RX0) (T := TX0) (N := 9) hx hb hts inlX0 tyX0 tyX0_ok nmX0 hown hE.1 hP hD hS 10 rfl rfl 7 (by decide) (hts _ wB170) (fun _ h9 => h9) rfl (by decide +kernel) rfl rfl (Nat.le_of_ble_eq_true rfl) dX0_takesToken_39 (fun H locs hP hD hS => ?_)
    have hP : va_P D vwCl (WX q cy (sI u 8 r36) ++ rest) H := hP
    have hD : va_D A (WX q cy (sI u 8 r36) ++ rest) := hD
    refine lv_aload_n hx hb dX0_takesToken_42 rfl (lv_at hl 0 rfl) ?_
    refine lv_iconst (v := 0) hx hb dX0_takesToken_43 (by decide) ?_
    refine va_put (ci := 0) (v := .int 0) (ty := .int) (C := RX0) (T := TX0) (N := 9) hx hb hts inlX0 tyX0 tyX0_ok nmX0 hown hE.1 hP hD hS 10 rfl rfl 8 (by decide) (hts _ wB171) (fun _ h9 => h9) rfl (by decide +kernel) rfl rfl (Nat.le_of_ble_eq_true rfl) dX0_takesToken_44 (fun H locs hP hD hS => ?_)
    have hQ : ∀ (xb : KS) (x0 : Int32) (xn : Int32), (WX q cy (sI xb 8 x0) ++ rest).set 10 (q 10, .inr (0, [.int (gI (sI xb 8 x0) 5), .int (gI (sI xb 8 x0) 6), .ref (q 11), .ref (q 12), .ref (q 13), .ref (q 14), .int (gI (sI xb 8 x0) 7), .int (gI (sI xb 8 x0) 8), .int (gI (sI xb 8 x0) 9)].set 8 (.int xn))) = WX q cy (sI (sI xb 8 x0) 9 xn) ++ rest := fun _ _ _ => rfl
    have hP : va_P D vwCl (WX q cy (sI (sI u 8 r36) 9 0) ++ rest) H := k_wP (hQ u r36 0) hP
    have hD : va_D A (WX q cy (sI (sI u 8 r36) 9 0) ++ rest) := k_wD (hQ u r36 0) hD
    clear hQ
    refine lv_aload_n hx hb dX0_takesToken_47 rfl (lv_at hl 0 rfl) ?_
    refine lv_aload_n hx hb dX0_takesToken_48 rfl (lv_at hl 0 rfl) ?_
    refine va_get (ci := 0) (v := .int r36) (C := RX0) (T := TX0) (N := 9) hx hb hts inlX0 hown hE.1 hP 10 rfl rfl 7 (by decide) (hts _ wB170) (fun _ h9 => h9) rfl dX0_takesToken_49 ?_
    refine lv_iconst (v := 2) hx hb dX0_takesToken_52 (by decide) ?_
    refine lv_icmp_ne (tgt := 60) hx hb dX0_takesToken_53 (by decide) (fun c53 => ?_) (fun c53 => ?_)
    · have hf := o_in c53 hf
      refine lv_iconst (v := 2) hx hb dX0_takesToken_60 (by decide) ?_
      refine va_put (ci := 0) (v := .int 2) (ty := .int) (C := RX0) (T := TX0) (N := 9) hx hb hts inlX0 tyX0 tyX0_ok nmX0 hown hE.1 hP hD hS 10 rfl rfl 6 (by decide) (hts _ wB156) (fun _ h9 => h9) rfl (by decide +kernel) rfl rfl (Nat.le_of_ble_eq_true rfl) dX0_takesToken_61 (fun H locs hP hD hS => ?_)
      have hQ : ∀ (xb : KS) (x0 : Int32) (x1 : Int32) (xn : Int32), (WX q cy (sI (sI xb 8 x0) 9 x1) ++ rest).set 10 (q 10, .inr (0, [.int (gI (sI (sI xb 8 x0) 9 x1) 5), .int (gI (sI (sI xb 8 x0) 9 x1) 6), .ref (q 11), .ref (q 12), .ref (q 13), .ref (q 14), .int (gI (sI (sI xb 8 x0) 9 x1) 7), .int (gI (sI (sI xb 8 x0) 9 x1) 8), .int (gI (sI (sI xb 8 x0) 9 x1) 9)].set 6 (.int xn))) = WX q cy (sI (sI (sI xb 7 xn) 8 x0) 9 x1) ++ rest := fun _ _ _ _ => rfl
      have hP : va_P D vwCl (WX q cy (sI (sI (sI u 7 2) 8 r36) 9 0) ++ rest) H := k_wP (hQ u r36 0 2) hP
      have hD : va_D A (WX q cy (sI (sI (sI u 7 2) 8 r36) 9 0) ++ rest) := k_wD (hQ u r36 0 2) hD
      clear hQ
      refine lv_aload_n hx hb dX0_takesToken_64 rfl (lv_at hl 0 rfl) ?_
      refine va_get (ci := 0) (v := .int r36) (C := RX0) (T := TX0) (N := 9) hx hb hts inlX0 hown hE.1 hP 10 rfl rfl 7 (by decide) (hts _ wB170) (fun _ h9 => h9) rfl dX0_takesToken_65 ?_
      refine lv_iconst (v := (-1)) hx hb dX0_takesToken_68 (by decide) ?_
      refine lv_icmp_eq (tgt := 76) hx hb dX0_takesToken_69 (by decide) (fun c69 => ?_) (fun c69 => ?_)
      · have hf := o_ip c69 hf
        refine lv_iconst (v := 0) hx hb dX0_takesToken_76 (by decide) ?_
        obtain rfl := o_ret hf
        exact k_zret (v := 0) hx hb hr hP hD hS rfl (Nat.zero_le _) (Nat.zero_le _) hlocks dX0_takesToken_77
      · have hf := o_in c69 hf
        refine lv_iconst (v := 1) hx hb dX0_takesToken_72 (by decide) ?_
        refine lv_goto (tgt := 77) hx hb dX0_takesToken_73 (by decide) ?_
        obtain rfl := o_ret hf
        exact k_zret (v := 1) hx hb hr hP hD hS rfl (Nat.zero_le _) (Nat.zero_le _) hlocks dX0_takesToken_77
    · have hf := o_ip c53 hf
      refine lv_iconst (v := 1) hx hb dX0_takesToken_56 (by decide) ?_
      refine lv_goto (tgt := 61) hx hb dX0_takesToken_57 (by decide) ?_
      refine va_put (ci := 0) (v := .int 1) (ty := .int) (C := RX0) (T := TX0) (N := 9) hx hb hts inlX0 tyX0 tyX0_ok nmX0 hown hE.1 hP hD hS 10 rfl rfl 6 (by decide) (hts _ wB156) (fun _ h9 => h9) rfl (by decide +kernel) rfl rfl (Nat.le_of_ble_eq_true rfl) dX0_takesToken_61 (fun H locs hP hD hS => ?_)
      have hQ : ∀ (xb : KS) (x0 : Int32) (x1 : Int32) (xn : Int32), (WX q cy (sI (sI xb 8 x0) 9 x1) ++ rest).set 10 (q 10, .inr (0, [.int (gI (sI (sI xb 8 x0) 9 x1) 5), .int (gI (sI (sI xb 8 x0) 9 x1) 6), .ref (q 11), .ref (q 12), .ref (q 13), .ref (q 14), .int (gI (sI (sI xb 8 x0) 9 x1) 7), .int (gI (sI (sI xb 8 x0) 9 x1) 8), .int (gI (sI (sI xb 8 x0) 9 x1) 9)].set 6 (.int xn))) = WX q cy (sI (sI (sI xb 7 xn) 8 x0) 9 x1) ++ rest := fun _ _ _ _ => rfl
      have hP : va_P D vwCl (WX q cy (sI (sI (sI u 7 1) 8 r36) 9 0) ++ rest) H := k_wP (hQ u r36 0 1) hP
      have hD : va_D A (WX q cy (sI (sI (sI u 7 1) 8 r36) 9 0) ++ rest) := k_wD (hQ u r36 0 1) hD
      clear hQ
      refine lv_aload_n hx hb dX0_takesToken_64 rfl (lv_at hl 0 rfl) ?_
      refine va_get (ci := 0) (v := .int r36) (C := RX0) (T := TX0) (N := 9) hx hb hts inlX0 hown hE.1 hP 10 rfl rfl 7 (by decide) (hts _ wB170) (fun _ h9 => h9) rfl dX0_takesToken_65 ?_
      refine lv_iconst (v := (-1)) hx hb dX0_takesToken_68 (by decide) ?_
      refine lv_icmp_eq (tgt := 76) hx hb dX0_takesToken_69 (by decide) (fun c69 => ?_) (fun c69 => ?_)
      · have hf := o_ip c69 hf
        refine lv_iconst (v := 0) hx hb dX0_takesToken_76 (by decide) ?_
        obtain rfl := o_ret hf
        exact k_zret (v := 0) hx hb hr hP hD hS rfl (Nat.zero_le _) (Nat.zero_le _) hlocks dX0_takesToken_77
      · have hf := o_in c69 hf
        refine lv_iconst (v := 1) hx hb dX0_takesToken_72 (by decide) ?_
        refine lv_goto (tgt := 77) hx hb dX0_takesToken_73 (by decide) ?_
        obtain rfl := o_ret hf
        exact k_zret (v := 1) hx hb hr hP hD hS rfl (Nat.zero_le _) (Nat.zero_le _) hlocks dX0_takesToken_77
  have hf := o_in c4_0 hf
  by_cases c4_1 : (gI u 7) = 1
  · have hf := o_ip c4_1 hf
    refine lv_tableIn (tgt := 78) hx hb dX0_takesToken_4 (by rw [c4_1]; decide) (by rw [c4_1]; decide) (off := 74) (by rw [c4_1]; decide) (by decide) ?_
    refine lv_aload_n hx hb dX0_takesToken_78 rfl (lv_at hl 0 rfl) ?_
    refine lv_aload_n hx hb dX0_takesToken_79 rfl (lv_at hl 1 rfl) ?_
    refine lv_iload_n hx hb dX0_takesToken_80 rfl (lv_at hl 2 rfl) ?_
    refine lv_iload_n hx hb dX0_takesToken_81 rfl (lv_at hl 3 rfl) ?_
    obtain ⟨r82, h82r, hf⟩ := o_bs hf
    refine k_goi (va_runS (As := [.ref (q 4), .int a2, .int a3]) (rest := [.ref (q 10)]) ⟨hx, hb, hml, hown, hts⟩ (zX0_numberAt l D cy sa (WX q cy u ++ rest) H.size 4 (q 4) 120 (gR u 1) a2 a3 r82 rfl h82r) (va_cwS 3 hts (gB_S wB227 wB228 wB20 wB229) rfl rfl rfl (by decide +kernel) ⟨Nat.le_of_ble_eq_true rfl, Nat.le_of_ble_eq_true rfl⟩) ⟨kP.blind, k_pre hP hD hS hE hA⟩ rfl rfl hl.1 rfl (lv_room (Nat.le_of_ble_eq_true rfl)) dX0_takesToken_82 ⟨Nat.zero_le _, Nat.zero_le _⟩) hD hS hA (fun H locs hP hD hS => ?_)
    refine va_put (ci := 0) (v := .int r82) (ty := .int) (C := RX0) (T := TX0) (N := 9) hx hb hts inlX0 tyX0 tyX0_ok nmX0 hown hE.1 hP hD hS 10 rfl rfl 8 (by decide) (hts _ wB171) (fun _ h9 => h9) rfl (by decide +kernel) rfl rfl (Nat.le_of_ble_eq_true rfl) dX0_takesToken_85 (fun H locs hP hD hS => ?_)
    have hP : va_P D vwCl (WX q cy (sI u 9 r82) ++ rest) H := hP
    have hD : va_D A (WX q cy (sI u 9 r82) ++ rest) := hD
    refine lv_aload_n hx hb dX0_takesToken_88 rfl (lv_at hl 0 rfl) ?_
    refine lv_iconst (v := 2) hx hb dX0_takesToken_89 (by decide) ?_
    refine va_put (ci := 0) (v := .int 2) (ty := .int) (C := RX0) (T := TX0) (N := 9) hx hb hts inlX0 tyX0 tyX0_ok nmX0 hown hE.1 hP hD hS 10 rfl rfl 6 (by decide) (hts _ wB156) (fun _ h9 => h9) rfl (by decide +kernel) rfl rfl (Nat.le_of_ble_eq_true rfl) dX0_takesToken_90 (fun H locs hP hD hS => ?_)
    have hQ : ∀ (xb : KS) (x0 : Int32) (xn : Int32), (WX q cy (sI xb 9 x0) ++ rest).set 10 (q 10, .inr (0, [.int (gI (sI xb 9 x0) 5), .int (gI (sI xb 9 x0) 6), .ref (q 11), .ref (q 12), .ref (q 13), .ref (q 14), .int (gI (sI xb 9 x0) 7), .int (gI (sI xb 9 x0) 8), .int (gI (sI xb 9 x0) 9)].set 6 (.int xn))) = WX q cy (sI (sI xb 7 xn) 9 x0) ++ rest := fun _ _ _ => rfl
    have hP : va_P D vwCl (WX q cy (sI (sI u 7 2) 9 r82) ++ rest) H := k_wP (hQ u r82 2) hP
    have hD : va_D A (WX q cy (sI (sI u 7 2) 9 r82) ++ rest) := k_wD (hQ u r82 2) hD
    clear hQ
    refine lv_aload_n hx hb dX0_takesToken_93 rfl (lv_at hl 0 rfl) ?_
    refine va_get (ci := 0) (v := .int r82) (C := RX0) (T := TX0) (N := 9) hx hb hts inlX0 hown hE.1 hP 10 rfl rfl 8 (by decide) (hts _ wB171) (fun _ h9 => h9) rfl dX0_takesToken_94 ?_
    refine lv_iconst (v := 1) hx hb dX0_takesToken_97 (by decide) ?_
    refine lv_icmp_lt (tgt := 114) hx hb dX0_takesToken_98 (by decide) (fun c98 => ?_) (fun c98 => ?_)
    · have hf := o_ip c98 hf
      refine lv_iconst (v := 0) hx hb dX0_takesToken_114 (by decide) ?_
      obtain rfl := o_ret hf
      exact k_zret (v := 0) hx hb hr hP hD hS rfl (Nat.zero_le _) (Nat.zero_le _) hlocks dX0_takesToken_115
    · have hf := o_in c98 hf
      refine lv_aload_n hx hb dX0_takesToken_101 rfl (lv_at hl 0 rfl) ?_
      refine va_get (ci := 0) (v := .int r82) (C := RX0) (T := TX0) (N := 9) hx hb hts inlX0 hown hE.1 hP 10 rfl rfl 8 (by decide) (hts _ wB171) (fun _ h9 => h9) rfl dX0_takesToken_102 ?_
      refine lv_bipush (v := 9) hx hb dX0_takesToken_105 (by decide) ?_
      refine lv_icmp_gt (tgt := 114) hx hb dX0_takesToken_107 (by decide) (fun c107 => ?_) (fun c107 => ?_)
      · have hf := o_ip c107 hf
        refine lv_iconst (v := 0) hx hb dX0_takesToken_114 (by decide) ?_
        obtain rfl := o_ret hf
        exact k_zret (v := 0) hx hb hr hP hD hS rfl (Nat.zero_le _) (Nat.zero_le _) hlocks dX0_takesToken_115
      · have hf := o_in c107 hf
        refine lv_iconst (v := 1) hx hb dX0_takesToken_110 (by decide) ?_
        refine lv_goto (tgt := 115) hx hb dX0_takesToken_111 (by decide) ?_
        obtain rfl := o_ret hf
        exact k_zret (v := 1) hx hb hr hP hD hS rfl (Nat.zero_le _) (Nat.zero_le _) hlocks dX0_takesToken_115
  have hf := o_in c4_1 hf
  by_cases c4_2 : (gI u 7) = 2
  · have hf := o_ip c4_2 hf
    refine lv_tableIn (tgt := 116) hx hb dX0_takesToken_4 (by rw [c4_2]; decide) (by rw [c4_2]; decide) (off := 112) (by rw [c4_2]; decide) (by decide) ?_
    refine lv_aload_n hx hb dX0_takesToken_116 rfl (lv_at hl 0 rfl) ?_
    refine lv_iconst (v := 3) hx hb dX0_takesToken_117 (by decide) ?_
    refine va_put (ci := 0) (v := .int 3) (ty := .int) (C := RX0) (T := TX0) (N := 9) hx hb hts inlX0 tyX0 tyX0_ok nmX0 hown hE.1 hP hD hS 10 rfl rfl 6 (by decide) (hts _ wB156) (fun _ h9 => h9) rfl (by decide +kernel) rfl rfl (Nat.le_of_ble_eq_true rfl) dX0_takesToken_118 (fun H locs hP hD hS => ?_)
    have hP : va_P D vwCl (WX q cy (sI u 7 3) ++ rest) H := hP
    have hD : va_D A (WX q cy (sI u 7 3) ++ rest) := hD
    refine lv_aload_n hx hb dX0_takesToken_121 rfl (lv_at hl 0 rfl) ?_
    refine lv_aload_n hx hb dX0_takesToken_122 rfl (lv_at hl 1 rfl) ?_
    refine lv_iload_n hx hb dX0_takesToken_123 rfl (lv_at hl 2 rfl) ?_
    refine lv_iload_n hx hb dX0_takesToken_124 rfl (lv_at hl 3 rfl) ?_
    obtain ⟨r125, h125r, hf⟩ := o_bs hf
    refine k_goi (va_runS (As := [.ref (q 4), .int a2, .int a3]) (rest := [.ref (q 10)]) ⟨hx, hb, hml, hown, hts⟩ (zX0_numberAt l D cy sa (WX q cy (sI u 7 3) ++ rest) H.size 4 (q 4) 120 (gR u 1) a2 a3 r125 rfl h125r) (va_cwS 3 hts (gB_S wB227 wB228 wB20 wB229) rfl rfl rfl (by decide +kernel) ⟨Nat.le_of_ble_eq_true rfl, Nat.le_of_ble_eq_true rfl⟩) ⟨kP.blind, k_pre hP hD hS hE hA⟩ rfl rfl hl.1 rfl (lv_room (Nat.le_of_ble_eq_true rfl)) dX0_takesToken_125 ⟨Nat.zero_le _, Nat.zero_le _⟩) hD hS hA (fun H locs hP hD hS => ?_)
    obtain ⟨r128, h128r, hf⟩ := o_bs hf
    refine k_goi (va_runV (As := [.int r125]) (rest := []) ⟨hx, hb, hml, hown, hts⟩ (zX0_lasts l D cy sa q rest H.size (sI u 7 3) r125 r128 h128r) (cwV 1 hts (gB_V wB230 wB231 wB232 wB20 wB233) rfl rfl rfl (by decide +kernel) ⟨Nat.le_of_ble_eq_true rfl, Nat.le_of_ble_eq_true rfl⟩) ⟨kP.blind, k_recv hE hP (ci := 0) (q0 := 10) rfl rfl, k_pre hP hD hS hE hA⟩ rfl rfl hl.1 rfl (lv_room (Nat.le_of_ble_eq_true rfl)) dX0_takesToken_128 ⟨Nat.zero_le _, Nat.zero_le _⟩) hD hS hA (fun H locs hP hD hS => ?_)
    obtain ⟨hgz, hf⟩ := gd_s hf
    obtain rfl := o_ret hf
    exact k_zret (v := _) hx hb hr hP hD hS (k_nar01 hgz) (Nat.zero_le _) (Nat.zero_le _) hlocks dX0_takesToken_131
  have hf := o_in c4_2 hf
  refine lv_tableOut (tgt := 132) hx hb dX0_takesToken_4 (by have t0 := lv_neT (a := 0) c4_0 rfl; have t1 := lv_neT (a := 1) c4_1 rfl; have t2 := lv_neT (a := 2) c4_2 rfl; omega) (by decide) ?_
  refine lv_aload_n hx hb dX0_takesToken_132 rfl (lv_at hl 0 rfl) ?_
  refine lv_iconst (v := 0) hx hb dX0_takesToken_133 (by decide) ?_
  refine va_put (ci := 0) (v := .int 0) (ty := .int) (C := RX0) (T := TX0) (N := 9) hx hb hts inlX0 tyX0 tyX0_ok nmX0 hown hE.1 hP hD hS 10 rfl rfl 6 (by decide) (hts _ wB156) (fun _ h9 => h9) rfl (by decide +kernel) rfl rfl (Nat.le_of_ble_eq_true rfl) dX0_takesToken_134 (fun H locs hP hD hS => ?_)
  have hP : va_P D vwCl (WX q cy (sI u 7 0) ++ rest) H := hP
  have hD : va_D A (WX q cy (sI u 7 0) ++ rest) := hD
  refine lv_aload_n hx hb dX0_takesToken_137 rfl (lv_at hl 1 rfl) ?_
  refine lv_iload_n hx hb dX0_takesToken_138 rfl (lv_at hl 2 rfl) ?_
  obtain ⟨r139, h139r, hf⟩ := o_bs hf
  refine k_goi (va_runSN (As := [.ref (q 4), .int a2]) (rest := []) ⟨hx, hb, hml, hown, hts⟩ (zX5_at l D cy sa (WX q cy (sI u 7 0) ++ rest) H.size 4 (q 4) 120 (gR u 1) a2 r139 rfl h139r) ⟨va_cnB 2 hts (gB_K wB112) rfl rfl rfl (hE.2.1.1 _ (List.mem_of_getElem? (i := 4) rfl)) (hts _ wB2) (by decide +kernel) ⟨Nat.le_of_ble_eq_true rfl, Nat.le_of_ble_eq_true rfl⟩, hts _ wB111, trivial⟩ ⟨kP.blind, k_pre hP hD hS hE hA⟩ rfl rfl hl.1 rfl (lv_room (Nat.le_of_ble_eq_true rfl)) dX0_takesToken_139 ⟨Nat.zero_le _, Nat.zero_le _⟩) hD hS hA (fun H locs hP hD hS => ?_)
  refine lv_bipush (v := 59) hx hb dX0_takesToken_142 (by decide) ?_
  refine lv_icmp_ne (tgt := 151) hx hb dX0_takesToken_144 (by decide) (fun c144 => ?_) (fun c144 => ?_)
  · have hf := o_in c144 hf
    refine lv_iconst (v := 0) hx hb dX0_takesToken_151 (by decide) ?_
    obtain rfl := o_ret hf
    exact k_zret (v := 0) hx hb hr hP hD hS rfl (Nat.zero_le _) (Nat.zero_le _) hlocks dX0_takesToken_152
  · have hf := o_ip c144 hf
    refine lv_iconst (v := 1) hx hb dX0_takesToken_147 (by decide) ?_
    refine lv_goto (tgt := 152) hx hb dX0_takesToken_148 (by decide) ?_
    obtain rfl := o_ret hf
    exact k_zret (v := 1) hx hb hr hP hD hS rfl (Nat.zero_le _) (Nat.zero_le _) hlocks dX0_takesToken_152
noncomputable def mX0_seep_s4 (c1 : Int32) (s4 : Int32 × Int32 × KS) : Option ((KS) ⊕ (Int32 × Int32 × KS)) :=
  if (gI s4.2.2 6) ≤ s4.2.1 then
  (some (.inl s4.2.2))
  else
  ((mX5_at 120 (gR s4.2.2 8) s4.2.1).bind fun r17 =>
  if r17 = 0 then
  (if r17 = 2 then
  ((mX0_oilPlace c1 s4.2.1).bind fun r100 =>
  (mX5_set 360 (gR s4.2.2 10) r100 (if (4 * c1) < (if 30 < (s4.1 + c1) then 30 else (s4.1 + c1)) then (4 * c1) else (if 30 < (s4.1 + c1) then 30 else (s4.1 + c1)))).bind fun r105 =>
  some (.inr (((if 30 < (s4.1 + c1) then 30 else (s4.1 + c1)) - (if (4 * c1) < (if 30 < (s4.1 + c1) then 30 else (s4.1 + c1)) then (4 * c1) else (if 30 < (s4.1 + c1) then 30 else (s4.1 + c1)))), (s4.2.1 + 1), (sR s4.2.2 10 r105))))
  else
  (if r17 = 1 then
  ((mX0_oilPlace c1 s4.2.1).bind fun r100 =>
  (mX5_set 360 (gR s4.2.2 10) r100 (if 1 < (if 30 < (s4.1 + c1) then 30 else (s4.1 + c1)) then 1 else (if 30 < (s4.1 + c1) then 30 else (s4.1 + c1)))).bind fun r105 =>
  some (.inr (((if 30 < (s4.1 + c1) then 30 else (s4.1 + c1)) - (if 1 < (if 30 < (s4.1 + c1) then 30 else (s4.1 + c1)) then 1 else (if 30 < (s4.1 + c1) then 30 else (s4.1 + c1)))), (s4.2.1 + 1), (sR s4.2.2 10 r105))))
  else
  ((mX0_oilPlace c1 s4.2.1).bind fun r100 =>
  (mX5_set 360 (gR s4.2.2 10) r100 (if 0 < (if 30 < (s4.1 + c1) then 30 else (s4.1 + c1)) then 0 else (if 30 < (s4.1 + c1) then 30 else (s4.1 + c1)))).bind fun r105 =>
  some (.inr (((if 30 < (s4.1 + c1) then 30 else (s4.1 + c1)) - (if 0 < (if 30 < (s4.1 + c1) then 30 else (s4.1 + c1)) then 0 else (if 30 < (s4.1 + c1) then 30 else (s4.1 + c1)))), (s4.2.1 + 1), (sR s4.2.2 10 r105))))))
  else
  (if r17 = 3 then
  (if r17 = 2 then
  ((mX0_oilPlace c1 s4.2.1).bind fun r100 =>
  (mX5_set 360 (gR s4.2.2 10) r100 (if (4 * c1) < (if 30 < (s4.1 + (3 * c1)) then 30 else (s4.1 + (3 * c1))) then (4 * c1) else (if 30 < (s4.1 + (3 * c1)) then 30 else (s4.1 + (3 * c1))))).bind fun r105 =>
  some (.inr (((if 30 < (s4.1 + (3 * c1)) then 30 else (s4.1 + (3 * c1))) - (if (4 * c1) < (if 30 < (s4.1 + (3 * c1)) then 30 else (s4.1 + (3 * c1))) then (4 * c1) else (if 30 < (s4.1 + (3 * c1)) then 30 else (s4.1 + (3 * c1))))), (s4.2.1 + 1), (sR s4.2.2 10 r105))))
  else
  (if r17 = 1 then
  ((mX0_oilPlace c1 s4.2.1).bind fun r100 =>
  (mX5_set 360 (gR s4.2.2 10) r100 (if 1 < (if 30 < (s4.1 + (3 * c1)) then 30 else (s4.1 + (3 * c1))) then 1 else (if 30 < (s4.1 + (3 * c1)) then 30 else (s4.1 + (3 * c1))))).bind fun r105 =>
  some (.inr (((if 30 < (s4.1 + (3 * c1)) then 30 else (s4.1 + (3 * c1))) - (if 1 < (if 30 < (s4.1 + (3 * c1)) then 30 else (s4.1 + (3 * c1))) then 1 else (if 30 < (s4.1 + (3 * c1)) then 30 else (s4.1 + (3 * c1))))), (s4.2.1 + 1), (sR s4.2.2 10 r105))))
  else
  ((mX0_oilPlace c1 s4.2.1).bind fun r100 =>
  (mX5_set 360 (gR s4.2.2 10) r100 (if 0 < (if 30 < (s4.1 + (3 * c1)) then 30 else (s4.1 + (3 * c1))) then 0 else (if 30 < (s4.1 + (3 * c1)) then 30 else (s4.1 + (3 * c1))))).bind fun r105 =>
  some (.inr (((if 30 < (s4.1 + (3 * c1)) then 30 else (s4.1 + (3 * c1))) - (if 0 < (if 30 < (s4.1 + (3 * c1)) then 30 else (s4.1 + (3 * c1))) then 0 else (if 30 < (s4.1 + (3 * c1)) then 30 else (s4.1 + (3 * c1))))), (s4.2.1 + 1), (sR s4.2.2 10 r105))))))
  else
  (if r17 = 2 then
  ((mX0_oilPlace c1 s4.2.1).bind fun r100 =>
  (mX5_set 360 (gR s4.2.2 10) r100 (if (4 * c1) < (if 30 < (s4.1 + 0) then 30 else (s4.1 + 0)) then (4 * c1) else (if 30 < (s4.1 + 0) then 30 else (s4.1 + 0)))).bind fun r105 =>
  some (.inr (((if 30 < (s4.1 + 0) then 30 else (s4.1 + 0)) - (if (4 * c1) < (if 30 < (s4.1 + 0) then 30 else (s4.1 + 0)) then (4 * c1) else (if 30 < (s4.1 + 0) then 30 else (s4.1 + 0)))), (s4.2.1 + 1), (sR s4.2.2 10 r105))))
  else
  (if r17 = 1 then
  ((mX0_oilPlace c1 s4.2.1).bind fun r100 =>
  (mX5_set 360 (gR s4.2.2 10) r100 (if 1 < (if 30 < (s4.1 + 0) then 30 else (s4.1 + 0)) then 1 else (if 30 < (s4.1 + 0) then 30 else (s4.1 + 0)))).bind fun r105 =>
  some (.inr (((if 30 < (s4.1 + 0) then 30 else (s4.1 + 0)) - (if 1 < (if 30 < (s4.1 + 0) then 30 else (s4.1 + 0)) then 1 else (if 30 < (s4.1 + 0) then 30 else (s4.1 + 0)))), (s4.2.1 + 1), (sR s4.2.2 10 r105))))
  else
  ((mX0_oilPlace c1 s4.2.1).bind fun r100 =>
  (mX5_set 360 (gR s4.2.2 10) r100 (if 0 < (if 30 < (s4.1 + 0) then 30 else (s4.1 + 0)) then 0 else (if 30 < (s4.1 + 0) then 30 else (s4.1 + 0)))).bind fun r105 =>
  some (.inr (((if 30 < (s4.1 + 0) then 30 else (s4.1 + 0)) - (if 0 < (if 30 < (s4.1 + 0) then 30 else (s4.1 + 0)) then 0 else (if 30 < (s4.1 + 0) then 30 else (s4.1 + 0)))), (s4.2.1 + 1), (sR s4.2.2 10 r105))))))))
noncomputable def mX0_seep (u : KS) (a1 : Int32) : Option (KS) :=
  (lpF (mX0_seep_s4 a1) (0, 0, u)).bind fun e4 =>
  some e4
abbrev rmX0_seep : Room := { frames := 1, cells := 0, slots := 0, locals := 31 }
set_option maxRecDepth 100000 in
set_option maxHeartbeats 4000000 in
theorem zX0_seep (l : Launch) (D : va_G) (cy : Nat → ClassId) (sa : Nat → Nat) (q : Nat → Nat) (rest : va_W) (sz : Nat) (u : KS) (a1 : Int32) (res : KS) (hf : mX0_seep u a1 = some res) : kMv l yX0_seep (wsK yX0_seep cX0_seep 8 none) rmX0_seep D cy sa (WX q cy u ++ rest) sz [.ref (q 10), .int a1] (WX q cy res ++ rest) 0 0 := by
  refine kM_of (Qc := fun A => kQv D A (WX q cy res ++ rest)) (cc := cX0_seep) (maxL := 8) (ret := none) (by decide) (Nat.le_of_ble_eq_true rfl) ?_
  intro p e s m below meth c A hx hb hml hr hts hown hlocks hin hA hP hD hS hE hsz ls hl
  have hown : s.vm.findClass RX0 = some m.cls := hown
  obtain ⟨H, hH0⟩ : ∃ H, H = s.heap := ⟨_, rfl⟩
  obtain ⟨locs, hlocs0⟩ : ∃ locs : List Loc, locs = [] := ⟨_, rfl⟩
  have hP : va_P D vwCl (WX q cy u ++ rest) H := by rw [hH0]; exact hP
  have hS : va_S A s.heap H locs := by rw [hH0, hlocs0]; exact hS
  have hl : lv_has ls 8 [(0, .ref (q 10)), (1, .int a1)] := hl
  suffices hgoal : W p l e rmX0_seep s m ([.ref (q 10), .int a1] : List Value).toArray below meth c H locs 0 0 (MQ below (kQv D A (WX q cy res ++ rest)) ([.ref (q 10), .int a1] : List Value).toArray s 0 0 A) (F0 m 0 ls []) by rw [hH0, hlocs0] at hgoal; exact hgoal
  clear hH0 hlocs0
  unfold mX0_seep at hf
  refine lv_iconst (v := 0) hx hb dX0_seep_0 (by decide) ?_
  refine lv_istore_n (lv' := [(2, .int 0), (0, .ref (q 10)), (1, .int a1)]) hx hb dX0_seep_1 rfl hl (by decide) rfl (fun ls hl => ?_)
  refine lv_iconst (v := 0) hx hb dX0_seep_2 (by decide) ?_
  refine lv_istore_n (lv' := [(3, .int 0), (2, .int 0), (0, .ref (q 10)), (1, .int a1)]) hx hb dX0_seep_3 rfl hl (by decide) rfl (fun ls hl => ?_)
  have L4 : ∀ (n4v : Nat) (s4 : Int32 × Int32 × KS) (e4 : KS), lpO (mX0_seep_s4 a1) n4v s4 = some e4 → ∀ (H : Heap) (locs : List Loc) (ls : Array Slot), va_P D vwCl (WX q cy s4.2.2 ++ rest) H → va_D A (WX q cy s4.2.2 ++ rest) → va_S A s.heap H locs → lv_has ls 8 [(0, .ref (q 10)), (1, .int a1), (2, .int s4.1), (3, .int s4.2.1)] → (∀ (H : Heap) (locs : List Loc) (ls : Array Slot), va_P D vwCl (WX q cy e4 ++ rest) H → va_D A (WX q cy e4 ++ rest) → va_S A s.heap H locs → lv_has ls 8 [] → W p l e rmX0_seep s m ([.ref (q 10), .int a1] : List Value).toArray below meth c H locs 0 0 (MQ below (kQv D A (WX q cy res ++ rest)) ([.ref (q 10), .int a1] : List Value).toArray s 0 0 A) (F0 m 114 ls [])) → W p l e rmX0_seep s m ([.ref (q 10), .int a1] : List Value).toArray below meth c H locs 0 0 (MQ below (kQv D A (WX q cy res ++ rest)) ([.ref (q 10), .int a1] : List Value).toArray s 0 0 A) (F0 m 4 ls []) := by
    intro n4v
    induction n4v with
    | zero => intro s4 e4 h; exact (lpO_z h).elim
    | succ n4v ih4 =>
      intro s4 e4 h4z H locs ls hP hD hS hl K4_0
      obtain ⟨x4, hf, h4z⟩ := lpO_s h4z
      unfold mX0_seep_s4 at hf
      refine lv_iload_n hx hb dX0_seep_4 rfl (lv_at hl 3 rfl) ?_
      refine lv_aload_n hx hb dX0_seep_5 rfl (lv_at hl 0 rfl) ?_
      refine va_get (ci := 0) (v := .int (gI s4.2.2 6)) (C := RX0) (T := TX0) (N := 9) hx hb hts inlX0 hown hE.1 hP 10 rfl rfl 1 (by decide) (hts _ wB155) (fun _ h9 => h9) rfl dX0_seep_6 ?_
      refine lv_icmp_ge (tgt := 114) hx hb dX0_seep_9 (by decide) (fun c9 => ?_) (fun c9 => ?_)
      · have hf := o_ip c9 hf
        obtain rfl := o_ret hf
        obtain rfl := lpK_l h4z
        exact K4_0 _ _ _ hP hD hS (lv_sub hl [] rfl)
      · have hf := o_in c9 hf
        refine lv_aload_n hx hb dX0_seep_12 rfl (lv_at hl 0 rfl) ?_
        refine va_get (ci := 0) (v := .ref (q 12)) (C := RX0) (T := TX0) (N := 9) hx hb hts inlX0 hown hE.1 hP 10 rfl rfl 3 (by decide) (hts _ wB52) (fun _ h9 => h9) rfl dX0_seep_13 ?_
        refine lv_iload_n hx hb dX0_seep_16 rfl (lv_at hl 3 rfl) ?_
        obtain ⟨r17, h17r, hf⟩ := o_bs hf
        refine k_goi (va_runSN (As := [.ref (q 12), .int s4.2.1]) (rest := []) ⟨hx, hb, hml, hown, hts⟩ (zX5_at l D cy sa (WX q cy s4.2.2 ++ rest) H.size 12 (q 12) 120 (gR s4.2.2 8) s4.2.1 r17 rfl h17r) ⟨va_cnB 2 hts (gB_K wB112) rfl rfl rfl (hE.2.1.1 _ (List.mem_of_getElem? (i := 4) rfl)) (hts _ wB2) (by decide +kernel) ⟨Nat.le_of_ble_eq_true rfl, Nat.le_of_ble_eq_true rfl⟩, hts _ wB111, trivial⟩ ⟨kP.blind, k_pre hP hD hS hE hA⟩ rfl rfl hl.1 rfl (lv_room (Nat.le_of_ble_eq_true rfl)) dX0_seep_17 ⟨Nat.zero_le _, Nat.zero_le _⟩) hD hS hA (fun H locs hP hD hS => ?_)
        refine lv_istore (lv' := [(4, .int r17), (0, .ref (q 10)), (1, .int a1), (2, .int s4.1), (3, .int s4.2.1)]) hx hb dX0_seep_20 hl (by decide) rfl (fun ls hl => ?_)
        refine lv_iload hx hb dX0_seep_22 (lv_at hl 0 rfl) ?_
        refine lv_if_ne (tgt := 31) hx hb dX0_seep_24 (by decide) (fun c24 => ?_) (fun c24 => ?_)
        · have hf := o_in c24 hf
          refine lv_iload hx hb dX0_seep_31 (lv_at hl 0 rfl) ?_
          refine lv_iconst (v := 3) hx hb dX0_seep_33 (by decide) ?_
          refine lv_icmp_ne (tgt := 43) hx hb dX0_seep_34 (by decide) (fun c34 => ?_) (fun c34 => ?_)
          · have hf := o_in c34 hf
            refine lv_iconst (v := 0) hx hb dX0_seep_43 (by decide) ?_
            refine lv_istore (lv' := [(5, .int 0), (4, .int r17), (0, .ref (q 10)), (1, .int a1), (2, .int s4.1), (3, .int s4.2.1)]) hx hb dX0_seep_44 hl (by decide) rfl (fun ls hl => ?_)
            refine lv_iload hx hb dX0_seep_46 (lv_at hl 1 rfl) ?_
            refine lv_iconst (v := 2) hx hb dX0_seep_48 (by decide) ?_
            refine lv_icmp_ne (tgt := 58) hx hb dX0_seep_49 (by decide) (fun c49 => ?_) (fun c49 => ?_)
            · have hf := o_in c49 hf
              refine lv_iload hx hb dX0_seep_58 (lv_at hl 1 rfl) ?_
              refine lv_iconst (v := 1) hx hb dX0_seep_60 (by decide) ?_
              refine lv_icmp_ne (tgt := 68) hx hb dX0_seep_61 (by decide) (fun c61 => ?_) (fun c61 => ?_)
              · have hf := o_in c61 hf
                refine lv_iconst (v := 0) hx hb dX0_seep_68 (by decide) ?_
                refine lv_istore (lv' := [(6, .int 0), (5, .int 0), (4, .int r17), (0, .ref (q 10)), (1, .int a1), (2, .int s4.1), (3, .int s4.2.1)]) hx hb dX0_seep_69 hl (by decide) rfl (fun ls hl => ?_)
                refine lv_iload_n hx hb dX0_seep_71 rfl (lv_at hl 5 rfl) ?_
                refine lv_iload hx hb dX0_seep_72 (lv_at hl 1 rfl) ?_
                refine lv_iadd hx hb dX0_seep_74 ?_
                refine lv_bipush (v := 30) hx hb dX0_seep_75 (by decide) ?_
                refine va_mmin hx hb (hml.trans hl.1.symm) hown (hts _ wB238) (hts _ wB239) (hts _ wB240) (hts _ wB241) (Nat.le_of_ble_eq_true rfl) (Nat.le_of_ble_eq_true rfl) (Nat.zero_le _) (Nat.zero_le _) dX0_seep_77 ?_
                refine lv_istore_n (lv' := [(2, .int (if 30 < (s4.1 + 0) then 30 else (s4.1 + 0))), (6, .int 0), (5, .int 0), (4, .int r17), (0, .ref (q 10)), (1, .int a1), (3, .int s4.2.1)]) hx hb dX0_seep_80 rfl hl (by decide) rfl (fun ls hl => ?_)
                refine lv_iload_n hx hb dX0_seep_81 rfl (lv_at hl 0 rfl) ?_
                refine lv_iload hx hb dX0_seep_82 (lv_at hl 1 rfl) ?_
                refine va_mmin hx hb (hml.trans hl.1.symm) hown (hts _ wB238) (hts _ wB239) (hts _ wB240) (hts _ wB241) (Nat.le_of_ble_eq_true rfl) (Nat.le_of_ble_eq_true rfl) (Nat.zero_le _) (Nat.zero_le _) dX0_seep_84 ?_
                refine lv_istore (lv' := [(7, .int (if 0 < (if 30 < (s4.1 + 0) then 30 else (s4.1 + 0)) then 0 else (if 30 < (s4.1 + 0) then 30 else (s4.1 + 0)))), (2, .int (if 30 < (s4.1 + 0) then 30 else (s4.1 + 0))), (6, .int 0), (5, .int 0), (4, .int r17), (0, .ref (q 10)), (1, .int a1), (3, .int s4.2.1)]) hx hb dX0_seep_87 hl (by decide) rfl (fun ls hl => ?_)
                refine lv_iload_n hx hb dX0_seep_89 rfl (lv_at hl 1 rfl) ?_
                refine lv_iload hx hb dX0_seep_90 (lv_at hl 0 rfl) ?_
                refine lv_isub hx hb dX0_seep_92 ?_
                refine lv_istore_n (lv' := [(2, .int ((if 30 < (s4.1 + 0) then 30 else (s4.1 + 0)) - (if 0 < (if 30 < (s4.1 + 0) then 30 else (s4.1 + 0)) then 0 else (if 30 < (s4.1 + 0) then 30 else (s4.1 + 0))))), (7, .int (if 0 < (if 30 < (s4.1 + 0) then 30 else (s4.1 + 0)) then 0 else (if 30 < (s4.1 + 0) then 30 else (s4.1 + 0)))), (6, .int 0), (5, .int 0), (4, .int r17), (0, .ref (q 10)), (1, .int a1), (3, .int s4.2.1)]) hx hb dX0_seep_93 rfl hl (by decide) rfl (fun ls hl => ?_)
                refine lv_aload_n hx hb dX0_seep_94 rfl (lv_at hl 5 rfl) ?_
                refine va_get (ci := 0) (v := .ref (q 14)) (C := RX0) (T := TX0) (N := 9) hx hb hts inlX0 hown hE.1 hP 10 rfl rfl 5 (by decide) (hts _ wB54) (fun _ h9 => h9) rfl dX0_seep_95 ?_
                refine lv_iload_n hx hb dX0_seep_98 rfl (lv_at hl 6 rfl) ?_
                refine lv_iload_n hx hb dX0_seep_99 rfl (lv_at hl 7 rfl) ?_
                obtain ⟨r100, h100r, hf⟩ := o_bs hf
                refine k_goi (va_runS (As := [.int a1, .int s4.2.1]) (rest := [.ref (q 14)]) ⟨hx, hb, hml, hown, hts⟩ (zX0_oilPlace l D cy sa (WX q cy s4.2.2 ++ rest) H.size a1 s4.2.1  r100  h100r) (va_cwS 2 hts (gB_S wB242 wB243 wB20 wB244) rfl rfl rfl (by decide +kernel) ⟨Nat.le_of_ble_eq_true rfl, Nat.le_of_ble_eq_true rfl⟩) ⟨kP.blind, k_pre hP hD hS hE hA⟩ rfl rfl hl.1 rfl (lv_room (Nat.le_of_ble_eq_true rfl)) dX0_seep_100 ⟨Nat.zero_le _, Nat.zero_le _⟩) hD hS hA (fun H locs hP hD hS => ?_)
                refine lv_iload hx hb dX0_seep_103 (lv_at hl 1 rfl) ?_
                obtain ⟨r105, h105r, hf⟩ := o_bs hf
                refine k_gov (va_runSN (As := [.ref (q 14), .int r100, .int (if 0 < (if 30 < (s4.1 + 0) then 30 else (s4.1 + 0)) then 0 else (if 30 < (s4.1 + 0) then 30 else (s4.1 + 0)))]) (rest := []) ⟨hx, hb, hml, hown, hts⟩ (zX5_set l D cy sa (WX q cy s4.2.2 ++ rest) H.size 14 (q 14) 360 (gR s4.2.2 10) r100 (if 0 < (if 30 < (s4.1 + 0) then 30 else (s4.1 + 0)) then 0 else (if 30 < (s4.1 + 0) then 30 else (s4.1 + 0))) r105 rfl h105r) ⟨va_cnB 3 hts (gB_K wB115) rfl rfl rfl (hE.2.1.1 _ (List.mem_of_getElem? (i := 5) rfl)) (hts _ wB2) (by decide +kernel) ⟨Nat.le_of_ble_eq_true rfl, Nat.le_of_ble_eq_true rfl⟩, hts _ wB114, trivial⟩ ⟨kP.blind, k_pre hP hD hS hE hA⟩ rfl rfl hl.1 rfl (lv_room (Nat.le_of_ble_eq_true rfl)) dX0_seep_105 ⟨Nat.zero_le _, Nat.zero_le _⟩) hD hS hA (fun H locs hP hD hS => ?_)
                have hP : va_P D vwCl (WX q cy (sR s4.2.2 10 r105) ++ rest) H := hP
                have hD : va_D A (WX q cy (sR s4.2.2 10 r105) ++ rest) := hD
                refine lv_iinc (v := (s4.2.1 + 1)) (lv' := [(3, .int (s4.2.1 + 1)), (2, .int ((if 30 < (s4.1 + 0) then 30 else (s4.1 + 0)) - (if 0 < (if 30 < (s4.1 + 0) then 30 else (s4.1 + 0)) then 0 else (if 30 < (s4.1 + 0) then 30 else (s4.1 + 0))))), (7, .int (if 0 < (if 30 < (s4.1 + 0) then 30 else (s4.1 + 0)) then 0 else (if 30 < (s4.1 + 0) then 30 else (s4.1 + 0)))), (6, .int 0), (5, .int 0), (4, .int r17), (0, .ref (q 10)), (1, .int a1)]) hx hb dX0_seep_108 hl (k := 7) rfl (by rfl) (by decide) rfl (fun ls hl => ?_)
                refine lv_goto (tgt := 4) hx hb dX0_seep_111 (by decide) ?_
                obtain rfl := o_ret hf
                exact ih4 _ _ (lpK_r h4z) _ _ _ hP hD hS (lv_sub hl [6, 7, 1, 0] rfl) K4_0
              · have hf := o_ip c61 hf
                refine lv_iconst (v := 1) hx hb dX0_seep_64 (by decide) ?_
                refine lv_goto (tgt := 69) hx hb dX0_seep_65 (by decide) ?_
                refine lv_istore (lv' := [(6, .int 1), (5, .int 0), (4, .int r17), (0, .ref (q 10)), (1, .int a1), (2, .int s4.1), (3, .int s4.2.1)]) hx hb dX0_seep_69 hl (by decide) rfl (fun ls hl => ?_)
                refine lv_iload_n hx hb dX0_seep_71 rfl (lv_at hl 5 rfl) ?_
                refine lv_iload hx hb dX0_seep_72 (lv_at hl 1 rfl) ?_
                refine lv_iadd hx hb dX0_seep_74 ?_
                refine lv_bipush (v := 30) hx hb dX0_seep_75 (by decide) ?_
                refine va_mmin hx hb (hml.trans hl.1.symm) hown (hts _ wB238) (hts _ wB239) (hts _ wB240) (hts _ wB241) (Nat.le_of_ble_eq_true rfl) (Nat.le_of_ble_eq_true rfl) (Nat.zero_le _) (Nat.zero_le _) dX0_seep_77 ?_
                refine lv_istore_n (lv' := [(2, .int (if 30 < (s4.1 + 0) then 30 else (s4.1 + 0))), (6, .int 1), (5, .int 0), (4, .int r17), (0, .ref (q 10)), (1, .int a1), (3, .int s4.2.1)]) hx hb dX0_seep_80 rfl hl (by decide) rfl (fun ls hl => ?_)
                refine lv_iload_n hx hb dX0_seep_81 rfl (lv_at hl 0 rfl) ?_
                refine lv_iload hx hb dX0_seep_82 (lv_at hl 1 rfl) ?_
                refine va_mmin hx hb (hml.trans hl.1.symm) hown (hts _ wB238) (hts _ wB239) (hts _ wB240) (hts _ wB241) (Nat.le_of_ble_eq_true rfl) (Nat.le_of_ble_eq_true rfl) (Nat.zero_le _) (Nat.zero_le _) dX0_seep_84 ?_
                refine lv_istore (lv' := [(7, .int (if 1 < (if 30 < (s4.1 + 0) then 30 else (s4.1 + 0)) then 1 else (if 30 < (s4.1 + 0) then 30 else (s4.1 + 0)))), (2, .int (if 30 < (s4.1 + 0) then 30 else (s4.1 + 0))), (6, .int 1), (5, .int 0), (4, .int r17), (0, .ref (q 10)), (1, .int a1), (3, .int s4.2.1)]) hx hb dX0_seep_87 hl (by decide) rfl (fun ls hl => ?_)
                refine lv_iload_n hx hb dX0_seep_89 rfl (lv_at hl 1 rfl) ?_
                refine lv_iload hx hb dX0_seep_90 (lv_at hl 0 rfl) ?_
                refine lv_isub hx hb dX0_seep_92 ?_
                refine lv_istore_n (lv' := [(2, .int ((if 30 < (s4.1 + 0) then 30 else (s4.1 + 0)) - (if 1 < (if 30 < (s4.1 + 0) then 30 else (s4.1 + 0)) then 1 else (if 30 < (s4.1 + 0) then 30 else (s4.1 + 0))))), (7, .int (if 1 < (if 30 < (s4.1 + 0) then 30 else (s4.1 + 0)) then 1 else (if 30 < (s4.1 + 0) then 30 else (s4.1 + 0)))), (6, .int 1), (5, .int 0), (4, .int r17), (0, .ref (q 10)), (1, .int a1), (3, .int s4.2.1)]) hx hb dX0_seep_93 rfl hl (by decide) rfl (fun ls hl => ?_)
                refine lv_aload_n hx hb dX0_seep_94 rfl (lv_at hl 5 rfl) ?_
                refine va_get (ci := 0) (v := .ref (q 14)) (C := RX0) (T := TX0) (N := 9) hx hb hts inlX0 hown hE.1 hP 10 rfl rfl 5 (by decide) (hts _ wB54) (fun _ h9 => h9) rfl dX0_seep_95 ?_
                refine lv_iload_n hx hb dX0_seep_98 rfl (lv_at hl 6 rfl) ?_
                refine lv_iload_n hx hb dX0_seep_99 rfl (lv_at hl 7 rfl) ?_
                obtain ⟨r100, h100r, hf⟩ := o_bs hf
                refine k_goi (va_runS (As := [.int a1, .int s4.2.1]) (rest := [.ref (q 14)]) ⟨hx, hb, hml, hown, hts⟩ (zX0_oilPlace l D cy sa (WX q cy s4.2.2 ++ rest) H.size a1 s4.2.1  r100  h100r) (va_cwS 2 hts (gB_S wB242 wB243 wB20 wB244) rfl rfl rfl (by decide +kernel) ⟨Nat.le_of_ble_eq_true rfl, Nat.le_of_ble_eq_true rfl⟩) ⟨kP.blind, k_pre hP hD hS hE hA⟩ rfl rfl hl.1 rfl (lv_room (Nat.le_of_ble_eq_true rfl)) dX0_seep_100 ⟨Nat.zero_le _, Nat.zero_le _⟩) hD hS hA (fun H locs hP hD hS => ?_)
                refine lv_iload hx hb dX0_seep_103 (lv_at hl 1 rfl) ?_
                obtain ⟨r105, h105r, hf⟩ := o_bs hf
                refine k_gov (va_runSN (As := [.ref (q 14), .int r100, .int (if 1 < (if 30 < (s4.1 + 0) then 30 else (s4.1 + 0)) then 1 else (if 30 < (s4.1 + 0) then 30 else (s4.1 + 0)))]) (rest := []) ⟨hx, hb, hml, hown, hts⟩ (zX5_set l D cy sa (WX q cy s4.2.2 ++ rest) H.size 14 (q 14) 360 (gR s4.2.2 10) r100 (if 1 < (if 30 < (s4.1 + 0) then 30 else (s4.1 + 0)) then 1 else (if 30 < (s4.1 + 0) then 30 else (s4.1 + 0))) r105 rfl h105r) ⟨va_cnB 3 hts (gB_K wB115) rfl rfl rfl (hE.2.1.1 _ (List.mem_of_getElem? (i := 5) rfl)) (hts _ wB2) (by decide +kernel) ⟨Nat.le_of_ble_eq_true rfl, Nat.le_of_ble_eq_true rfl⟩, hts _ wB114, trivial⟩ ⟨kP.blind, k_pre hP hD hS hE hA⟩ rfl rfl hl.1 rfl (lv_room (Nat.le_of_ble_eq_true rfl)) dX0_seep_105 ⟨Nat.zero_le _, Nat.zero_le _⟩) hD hS hA (fun H locs hP hD hS => ?_)
                have hP : va_P D vwCl (WX q cy (sR s4.2.2 10 r105) ++ rest) H := hP
                have hD : va_D A (WX q cy (sR s4.2.2 10 r105) ++ rest) := hD
                refine lv_iinc (v := (s4.2.1 + 1)) (lv' := [(3, .int (s4.2.1 + 1)), (2, .int ((if 30 < (s4.1 + 0) then 30 else (s4.1 + 0)) - (if 1 < (if 30 < (s4.1 + 0) then 30 else (s4.1 + 0)) then 1 else (if 30 < (s4.1 + 0) then 30 else (s4.1 + 0))))), (7, .int (if 1 < (if 30 < (s4.1 + 0) then 30 else (s4.1 + 0)) then 1 else (if 30 < (s4.1 + 0) then 30 else (s4.1 + 0)))), (6, .int 1), (5, .int 0), (4, .int r17), (0, .ref (q 10)), (1, .int a1)]) hx hb dX0_seep_108 hl (k := 7) rfl (by rfl) (by decide) rfl (fun ls hl => ?_)
                refine lv_goto (tgt := 4) hx hb dX0_seep_111 (by decide) ?_
                obtain rfl := o_ret hf
                exact ih4 _ _ (lpK_r h4z) _ _ _ hP hD hS (lv_sub hl [6, 7, 1, 0] rfl) K4_0
            · have hf := o_ip c49 hf
              refine lv_iconst (v := 4) hx hb dX0_seep_52 (by decide) ?_
              refine lv_iload_n hx hb dX0_seep_53 rfl (lv_at hl 3 rfl) ?_
              refine lv_imul hx hb dX0_seep_54 ?_
              refine lv_goto (tgt := 69) hx hb dX0_seep_55 (by decide) ?_
              refine lv_istore (lv' := [(6, .int (4 * a1)), (5, .int 0), (4, .int r17), (0, .ref (q 10)), (1, .int a1), (2, .int s4.1), (3, .int s4.2.1)]) hx hb dX0_seep_69 hl (by decide) rfl (fun ls hl => ?_)
              refine lv_iload_n hx hb dX0_seep_71 rfl (lv_at hl 5 rfl) ?_
              refine lv_iload hx hb dX0_seep_72 (lv_at hl 1 rfl) ?_
              refine lv_iadd hx hb dX0_seep_74 ?_
              refine lv_bipush (v := 30) hx hb dX0_seep_75 (by decide) ?_
              refine va_mmin hx hb (hml.trans hl.1.symm) hown (hts _ wB238) (hts _ wB239) (hts _ wB240) (hts _ wB241) (Nat.le_of_ble_eq_true rfl) (Nat.le_of_ble_eq_true rfl) (Nat.zero_le _) (Nat.zero_le _) dX0_seep_77 ?_
              refine lv_istore_n (lv' := [(2, .int (if 30 < (s4.1 + 0) then 30 else (s4.1 + 0))), (6, .int (4 * a1)), (5, .int 0), (4, .int r17), (0, .ref (q 10)), (1, .int a1), (3, .int s4.2.1)]) hx hb dX0_seep_80 rfl hl (by decide) rfl (fun ls hl => ?_)
              refine lv_iload_n hx hb dX0_seep_81 rfl (lv_at hl 0 rfl) ?_
              refine lv_iload hx hb dX0_seep_82 (lv_at hl 1 rfl) ?_
              refine va_mmin hx hb (hml.trans hl.1.symm) hown (hts _ wB238) (hts _ wB239) (hts _ wB240) (hts _ wB241) (Nat.le_of_ble_eq_true rfl) (Nat.le_of_ble_eq_true rfl) (Nat.zero_le _) (Nat.zero_le _) dX0_seep_84 ?_
              refine lv_istore (lv' := [(7, .int (if (4 * a1) < (if 30 < (s4.1 + 0) then 30 else (s4.1 + 0)) then (4 * a1) else (if 30 < (s4.1 + 0) then 30 else (s4.1 + 0)))), (2, .int (if 30 < (s4.1 + 0) then 30 else (s4.1 + 0))), (6, .int (4 * a1)), (5, .int 0), (4, .int r17), (0, .ref (q 10)), (1, .int a1), (3, .int s4.2.1)]) hx hb dX0_seep_87 hl (by decide) rfl (fun ls hl => ?_)
              refine lv_iload_n hx hb dX0_seep_89 rfl (lv_at hl 1 rfl) ?_
              refine lv_iload hx hb dX0_seep_90 (lv_at hl 0 rfl) ?_
              refine lv_isub hx hb dX0_seep_92 ?_
              refine lv_istore_n (lv' := [(2, .int ((if 30 < (s4.1 + 0) then 30 else (s4.1 + 0)) - (if (4 * a1) < (if 30 < (s4.1 + 0) then 30 else (s4.1 + 0)) then (4 * a1) else (if 30 < (s4.1 + 0) then 30 else (s4.1 + 0))))), (7, .int (if (4 * a1) < (if 30 < (s4.1 + 0) then 30 else (s4.1 + 0)) then (4 * a1) else (if 30 < (s4.1 + 0) then 30 else (s4.1 + 0)))), (6, .int (4 * a1)), (5, .int 0), (4, .int r17), (0, .ref (q 10)), (1, .int a1), (3, .int s4.2.1)]) hx hb dX0_seep_93 rfl hl (by decide) rfl (fun ls hl => ?_)
              refine lv_aload_n hx hb dX0_seep_94 rfl (lv_at hl 5 rfl) ?_
              refine va_get (ci := 0) (v := .ref (q 14)) (C := RX0) (T := TX0) (N := 9) hx hb hts inlX0 hown hE.1 hP 10 rfl rfl 5 (by decide) (hts _ wB54) (fun _ h9 => h9) rfl dX0_seep_95 ?_
              refine lv_iload_n hx hb dX0_seep_98 rfl (lv_at hl 6 rfl) ?_
              refine lv_iload_n hx hb dX0_seep_99 rfl (lv_at hl 7 rfl) ?_
              obtain ⟨r100, h100r, hf⟩ := o_bs hf
              refine k_goi (va_runS (As := [.int a1, .int s4.2.1]) (rest := [.ref (q 14)]) ⟨hx, hb, hml, hown, hts⟩ (zX0_oilPlace l D cy sa (WX q cy s4.2.2 ++ rest) H.size a1 s4.2.1  r100  h100r) (va_cwS 2 hts (gB_S wB242 wB243 wB20 wB244) rfl rfl rfl (by decide +kernel) ⟨Nat.le_of_ble_eq_true rfl, Nat.le_of_ble_eq_true rfl⟩) ⟨kP.blind, k_pre hP hD hS hE hA⟩ rfl rfl hl.1 rfl (lv_room (Nat.le_of_ble_eq_true rfl)) dX0_seep_100 ⟨Nat.zero_le _, Nat.zero_le _⟩) hD hS hA (fun H locs hP hD hS => ?_)
              refine lv_iload hx hb dX0_seep_103 (lv_at hl 1 rfl) ?_
              obtain ⟨r105, h105r, hf⟩ := o_bs hf
              refine k_gov (va_runSN (As := [.ref (q 14), .int r100, .int (if (4 * a1) < (if 30 < (s4.1 + 0) then 30 else (s4.1 + 0)) then (4 * a1) else (if 30 < (s4.1 + 0) then 30 else (s4.1 + 0)))]) (rest := []) ⟨hx, hb, hml, hown, hts⟩ (zX5_set l D cy sa (WX q cy s4.2.2 ++ rest) H.size 14 (q 14) 360 (gR s4.2.2 10) r100 (if (4 * a1) < (if 30 < (s4.1 + 0) then 30 else (s4.1 + 0)) then (4 * a1) else (if 30 < (s4.1 + 0) then 30 else (s4.1 + 0))) r105 rfl h105r) ⟨va_cnB 3 hts (gB_K wB115) rfl rfl rfl (hE.2.1.1 _ (List.mem_of_getElem? (i := 5) rfl)) (hts _ wB2) (by decide +kernel) ⟨Nat.le_of_ble_eq_true rfl, Nat.le_of_ble_eq_true rfl⟩, hts _ wB114, trivial⟩ ⟨kP.blind, k_pre hP hD hS hE hA⟩ rfl rfl hl.1 rfl (lv_room (Nat.le_of_ble_eq_true rfl)) dX0_seep_105 ⟨Nat.zero_le _, Nat.zero_le _⟩) hD hS hA (fun H locs hP hD hS => ?_)
              have hP : va_P D vwCl (WX q cy (sR s4.2.2 10 r105) ++ rest) H := hP
              have hD : va_D A (WX q cy (sR s4.2.2 10 r105) ++ rest) := hD
              refine lv_iinc (v := (s4.2.1 + 1)) (lv' := [(3, .int (s4.2.1 + 1)), (2, .int ((if 30 < (s4.1 + 0) then 30 else (s4.1 + 0)) - (if (4 * a1) < (if 30 < (s4.1 + 0) then 30 else (s4.1 + 0)) then (4 * a1) else (if 30 < (s4.1 + 0) then 30 else (s4.1 + 0))))), (7, .int (if (4 * a1) < (if 30 < (s4.1 + 0) then 30 else (s4.1 + 0)) then (4 * a1) else (if 30 < (s4.1 + 0) then 30 else (s4.1 + 0)))), (6, .int (4 * a1)), (5, .int 0), (4, .int r17), (0, .ref (q 10)), (1, .int a1)]) hx hb dX0_seep_108 hl (k := 7) rfl (by rfl) (by decide) rfl (fun ls hl => ?_)
              refine lv_goto (tgt := 4) hx hb dX0_seep_111 (by decide) ?_
              obtain rfl := o_ret hf
              exact ih4 _ _ (lpK_r h4z) _ _ _ hP hD hS (lv_sub hl [6, 7, 1, 0] rfl) K4_0
          · have hf := o_ip c34 hf
            refine lv_iconst (v := 3) hx hb dX0_seep_37 (by decide) ?_
            refine lv_iload_n hx hb dX0_seep_38 rfl (lv_at hl 2 rfl) ?_
            refine lv_imul hx hb dX0_seep_39 ?_
            refine lv_goto (tgt := 44) hx hb dX0_seep_40 (by decide) ?_
            refine lv_istore (lv' := [(5, .int (3 * a1)), (4, .int r17), (0, .ref (q 10)), (1, .int a1), (2, .int s4.1), (3, .int s4.2.1)]) hx hb dX0_seep_44 hl (by decide) rfl (fun ls hl => ?_)
            refine lv_iload hx hb dX0_seep_46 (lv_at hl 1 rfl) ?_
            refine lv_iconst (v := 2) hx hb dX0_seep_48 (by decide) ?_
            refine lv_icmp_ne (tgt := 58) hx hb dX0_seep_49 (by decide) (fun c49 => ?_) (fun c49 => ?_)
            · have hf := o_in c49 hf
              refine lv_iload hx hb dX0_seep_58 (lv_at hl 1 rfl) ?_
              refine lv_iconst (v := 1) hx hb dX0_seep_60 (by decide) ?_
              refine lv_icmp_ne (tgt := 68) hx hb dX0_seep_61 (by decide) (fun c61 => ?_) (fun c61 => ?_)
              · have hf := o_in c61 hf
                refine lv_iconst (v := 0) hx hb dX0_seep_68 (by decide) ?_
                refine lv_istore (lv' := [(6, .int 0), (5, .int (3 * a1)), (4, .int r17), (0, .ref (q 10)), (1, .int a1), (2, .int s4.1), (3, .int s4.2.1)]) hx hb dX0_seep_69 hl (by decide) rfl (fun ls hl => ?_)
                refine lv_iload_n hx hb dX0_seep_71 rfl (lv_at hl 5 rfl) ?_
                refine lv_iload hx hb dX0_seep_72 (lv_at hl 1 rfl) ?_
                refine lv_iadd hx hb dX0_seep_74 ?_
                refine lv_bipush (v := 30) hx hb dX0_seep_75 (by decide) ?_
                refine va_mmin hx hb (hml.trans hl.1.symm) hown (hts _ wB238) (hts _ wB239) (hts _ wB240) (hts _ wB241) (Nat.le_of_ble_eq_true rfl) (Nat.le_of_ble_eq_true rfl) (Nat.zero_le _) (Nat.zero_le _) dX0_seep_77 ?_
                refine lv_istore_n (lv' := [(2, .int (if 30 < (s4.1 + (3 * a1)) then 30 else (s4.1 + (3 * a1)))), (6, .int 0), (5, .int (3 * a1)), (4, .int r17), (0, .ref (q 10)), (1, .int a1), (3, .int s4.2.1)]) hx hb dX0_seep_80 rfl hl (by decide) rfl (fun ls hl => ?_)
                refine lv_iload_n hx hb dX0_seep_81 rfl (lv_at hl 0 rfl) ?_
                refine lv_iload hx hb dX0_seep_82 (lv_at hl 1 rfl) ?_
                refine va_mmin hx hb (hml.trans hl.1.symm) hown (hts _ wB238) (hts _ wB239) (hts _ wB240) (hts _ wB241) (Nat.le_of_ble_eq_true rfl) (Nat.le_of_ble_eq_true rfl) (Nat.zero_le _) (Nat.zero_le _) dX0_seep_84 ?_
                refine lv_istore (lv' := [(7, .int (if 0 < (if 30 < (s4.1 + (3 * a1)) then 30 else (s4.1 + (3 * a1))) then 0 else (if 30 < (s4.1 + (3 * a1)) then 30 else (s4.1 + (3 * a1))))), (2, .int (if 30 < (s4.1 + (3 * a1)) then 30 else (s4.1 + (3 * a1)))), (6, .int 0), (5, .int (3 * a1)), (4, .int r17), (0, .ref (q 10)), (1, .int a1), (3, .int s4.2.1)]) hx hb dX0_seep_87 hl (by decide) rfl (fun ls hl => ?_)
                refine lv_iload_n hx hb dX0_seep_89 rfl (lv_at hl 1 rfl) ?_
                refine lv_iload hx hb dX0_seep_90 (lv_at hl 0 rfl) ?_
                refine lv_isub hx hb dX0_seep_92 ?_
                refine lv_istore_n (lv' := [(2, .int ((if 30 < (s4.1 + (3 * a1)) then 30 else (s4.1 + (3 * a1))) - (if 0 < (if 30 < (s4.1 + (3 * a1)) then 30 else (s4.1 + (3 * a1))) then 0 else (if 30 < (s4.1 + (3 * a1)) then 30 else (s4.1 + (3 * a1)))))), (7, .int (if 0 < (if 30 < (s4.1 + (3 * a1)) then 30 else (s4.1 + (3 * a1))) then 0 else (if 30 < (s4.1 + (3 * a1)) then 30 else (s4.1 + (3 * a1))))), (6, .int 0), (5, .int (3 * a1)), (4, .int r17), (0, .ref (q 10)), (1, .int a1), (3, .int s4.2.1)]) hx hb dX0_seep_93 rfl hl (by decide) rfl (fun ls hl => ?_)
                refine lv_aload_n hx hb dX0_seep_94 rfl (lv_at hl 5 rfl) ?_
                refine va_get (ci := 0) (v := .ref (q 14)) (C := RX0) (T := TX0) (N := 9) hx hb hts inlX0 hown hE.1 hP 10 rfl rfl 5 (by decide) (hts _ wB54) (fun _ h9 => h9) rfl dX0_seep_95 ?_
                refine lv_iload_n hx hb dX0_seep_98 rfl (lv_at hl 6 rfl) ?_
                refine lv_iload_n hx hb dX0_seep_99 rfl (lv_at hl 7 rfl) ?_
                obtain ⟨r100, h100r, hf⟩ := o_bs hf
                refine k_goi (va_runS (As := [.int a1, .int s4.2.1]) (rest := [.ref (q 14)]) ⟨hx, hb, hml, hown, hts⟩ (zX0_oilPlace l D cy sa (WX q cy s4.2.2 ++ rest) H.size a1 s4.2.1  r100  h100r) (va_cwS 2 hts (gB_S wB242 wB243 wB20 wB244) rfl rfl rfl (by decide +kernel) ⟨Nat.le_of_ble_eq_true rfl, Nat.le_of_ble_eq_true rfl⟩) ⟨kP.blind, k_pre hP hD hS hE hA⟩ rfl rfl hl.1 rfl (lv_room (Nat.le_of_ble_eq_true rfl)) dX0_seep_100 ⟨Nat.zero_le _, Nat.zero_le _⟩) hD hS hA (fun H locs hP hD hS => ?_)
                refine lv_iload hx hb dX0_seep_103 (lv_at hl 1 rfl) ?_
                obtain ⟨r105, h105r, hf⟩ := o_bs hf
                refine k_gov (va_runSN (As := [.ref (q 14), .int r100, .int (if 0 < (if 30 < (s4.1 + (3 * a1)) then 30 else (s4.1 + (3 * a1))) then 0 else (if 30 < (s4.1 + (3 * a1)) then 30 else (s4.1 + (3 * a1))))]) (rest := []) ⟨hx, hb, hml, hown, hts⟩ (zX5_set l D cy sa (WX q cy s4.2.2 ++ rest) H.size 14 (q 14) 360 (gR s4.2.2 10) r100 (if 0 < (if 30 < (s4.1 + (3 * a1)) then 30 else (s4.1 + (3 * a1))) then 0 else (if 30 < (s4.1 + (3 * a1)) then 30 else (s4.1 + (3 * a1)))) r105 rfl h105r) ⟨va_cnB 3 hts (gB_K wB115) rfl rfl rfl (hE.2.1.1 _ (List.mem_of_getElem? (i := 5) rfl)) (hts _ wB2) (by decide +kernel) ⟨Nat.le_of_ble_eq_true rfl, Nat.le_of_ble_eq_true rfl⟩, hts _ wB114, trivial⟩ ⟨kP.blind, k_pre hP hD hS hE hA⟩ rfl rfl hl.1 rfl (lv_room (Nat.le_of_ble_eq_true rfl)) dX0_seep_105 ⟨Nat.zero_le _, Nat.zero_le _⟩) hD hS hA (fun H locs hP hD hS => ?_)
                have hP : va_P D vwCl (WX q cy (sR s4.2.2 10 r105) ++ rest) H := hP
                have hD : va_D A (WX q cy (sR s4.2.2 10 r105) ++ rest) := hD
                refine lv_iinc (v := (s4.2.1 + 1)) (lv' := [(3, .int (s4.2.1 + 1)), (2, .int ((if 30 < (s4.1 + (3 * a1)) then 30 else (s4.1 + (3 * a1))) - (if 0 < (if 30 < (s4.1 + (3 * a1)) then 30 else (s4.1 + (3 * a1))) then 0 else (if 30 < (s4.1 + (3 * a1)) then 30 else (s4.1 + (3 * a1)))))), (7, .int (if 0 < (if 30 < (s4.1 + (3 * a1)) then 30 else (s4.1 + (3 * a1))) then 0 else (if 30 < (s4.1 + (3 * a1)) then 30 else (s4.1 + (3 * a1))))), (6, .int 0), (5, .int (3 * a1)), (4, .int r17), (0, .ref (q 10)), (1, .int a1)]) hx hb dX0_seep_108 hl (k := 7) rfl (by rfl) (by decide) rfl (fun ls hl => ?_)
                refine lv_goto (tgt := 4) hx hb dX0_seep_111 (by decide) ?_
                obtain rfl := o_ret hf
                exact ih4 _ _ (lpK_r h4z) _ _ _ hP hD hS (lv_sub hl [6, 7, 1, 0] rfl) K4_0
              · have hf := o_ip c61 hf
                refine lv_iconst (v := 1) hx hb dX0_seep_64 (by decide) ?_
                refine lv_goto (tgt := 69) hx hb dX0_seep_65 (by decide) ?_
                refine lv_istore (lv' := [(6, .int 1), (5, .int (3 * a1)), (4, .int r17), (0, .ref (q 10)), (1, .int a1), (2, .int s4.1), (3, .int s4.2.1)]) hx hb dX0_seep_69 hl (by decide) rfl (fun ls hl => ?_)
                refine lv_iload_n hx hb dX0_seep_71 rfl (lv_at hl 5 rfl) ?_
                refine lv_iload hx hb dX0_seep_72 (lv_at hl 1 rfl) ?_
                refine lv_iadd hx hb dX0_seep_74 ?_
                refine lv_bipush (v := 30) hx hb dX0_seep_75 (by decide) ?_
                refine va_mmin hx hb (hml.trans hl.1.symm) hown (hts _ wB238) (hts _ wB239) (hts _ wB240) (hts _ wB241) (Nat.le_of_ble_eq_true rfl) (Nat.le_of_ble_eq_true rfl) (Nat.zero_le _) (Nat.zero_le _) dX0_seep_77 ?_
                refine lv_istore_n (lv' := [(2, .int (if 30 < (s4.1 + (3 * a1)) then 30 else (s4.1 + (3 * a1)))), (6, .int 1), (5, .int (3 * a1)), (4, .int r17), (0, .ref (q 10)), (1, .int a1), (3, .int s4.2.1)]) hx hb dX0_seep_80 rfl hl (by decide) rfl (fun ls hl => ?_)
                refine lv_iload_n hx hb dX0_seep_81 rfl (lv_at hl 0 rfl) ?_
                refine lv_iload hx hb dX0_seep_82 (lv_at hl 1 rfl) ?_
                refine va_mmin hx hb (hml.trans hl.1.symm) hown (hts _ wB238) (hts _ wB239) (hts _ wB240) (hts _ wB241) (Nat.le_of_ble_eq_true rfl) (Nat.le_of_ble_eq_true rfl) (Nat.zero_le _) (Nat.zero_le _) dX0_seep_84 ?_
                refine lv_istore (lv' := [(7, .int (if 1 < (if 30 < (s4.1 + (3 * a1)) then 30 else (s4.1 + (3 * a1))) then 1 else (if 30 < (s4.1 + (3 * a1)) then 30 else (s4.1 + (3 * a1))))), (2, .int (if 30 < (s4.1 + (3 * a1)) then 30 else (s4.1 + (3 * a1)))), (6, .int 1), (5, .int (3 * a1)), (4, .int r17), (0, .ref (q 10)), (1, .int a1), (3, .int s4.2.1)]) hx hb dX0_seep_87 hl (by decide) rfl (fun ls hl => ?_)
                refine lv_iload_n hx hb dX0_seep_89 rfl (lv_at hl 1 rfl) ?_
                refine lv_iload hx hb dX0_seep_90 (lv_at hl 0 rfl) ?_
                refine lv_isub hx hb dX0_seep_92 ?_
                refine lv_istore_n (lv' := [(2, .int ((if 30 < (s4.1 + (3 * a1)) then 30 else (s4.1 + (3 * a1))) - (if 1 < (if 30 < (s4.1 + (3 * a1)) then 30 else (s4.1 + (3 * a1))) then 1 else (if 30 < (s4.1 + (3 * a1)) then 30 else (s4.1 + (3 * a1)))))), (7, .int (if 1 < (if 30 < (s4.1 + (3 * a1)) then 30 else (s4.1 + (3 * a1))) then 1 else (if 30 < (s4.1 + (3 * a1)) then 30 else (s4.1 + (3 * a1))))), (6, .int 1), (5, .int (3 * a1)), (4, .int r17), (0, .ref (q 10)), (1, .int a1), (3, .int s4.2.1)]) hx hb dX0_seep_93 rfl hl (by decide) rfl (fun ls hl => ?_)
                refine lv_aload_n hx hb dX0_seep_94 rfl (lv_at hl 5 rfl) ?_
                refine va_get (ci := 0) (v := .ref (q 14)) (C := RX0) (T := TX0) (N := 9) hx hb hts inlX0 hown hE.1 hP 10 rfl rfl 5 (by decide) (hts _ wB54) (fun _ h9 => h9) rfl dX0_seep_95 ?_
                refine lv_iload_n hx hb dX0_seep_98 rfl (lv_at hl 6 rfl) ?_
                refine lv_iload_n hx hb dX0_seep_99 rfl (lv_at hl 7 rfl) ?_
                obtain ⟨r100, h100r, hf⟩ := o_bs hf
                refine k_goi (va_runS (As := [.int a1, .int s4.2.1]) (rest := [.ref (q 14)]) ⟨hx, hb, hml, hown, hts⟩ (zX0_oilPlace l D cy sa (WX q cy s4.2.2 ++ rest) H.size a1 s4.2.1  r100  h100r) (va_cwS 2 hts (gB_S wB242 wB243 wB20 wB244) rfl rfl rfl (by decide +kernel) ⟨Nat.le_of_ble_eq_true rfl, Nat.le_of_ble_eq_true rfl⟩) ⟨kP.blind, k_pre hP hD hS hE hA⟩ rfl rfl hl.1 rfl (lv_room (Nat.le_of_ble_eq_true rfl)) dX0_seep_100 ⟨Nat.zero_le _, Nat.zero_le _⟩) hD hS hA (fun H locs hP hD hS => ?_)
                refine lv_iload hx hb dX0_seep_103 (lv_at hl 1 rfl) ?_
                obtain ⟨r105, h105r, hf⟩ := o_bs hf
                refine k_gov (va_runSN (As := [.ref (q 14), .int r100, .int (if 1 < (if 30 < (s4.1 + (3 * a1)) then 30 else (s4.1 + (3 * a1))) then 1 else (if 30 < (s4.1 + (3 * a1)) then 30 else (s4.1 + (3 * a1))))]) (rest := []) ⟨hx, hb, hml, hown, hts⟩ (zX5_set l D cy sa (WX q cy s4.2.2 ++ rest) H.size 14 (q 14) 360 (gR s4.2.2 10) r100 (if 1 < (if 30 < (s4.1 + (3 * a1)) then 30 else (s4.1 + (3 * a1))) then 1 else (if 30 < (s4.1 + (3 * a1)) then 30 else (s4.1 + (3 * a1)))) r105 rfl h105r) ⟨va_cnB 3 hts (gB_K wB115) rfl rfl rfl (hE.2.1.1 _ (List.mem_of_getElem? (i := 5) rfl)) (hts _ wB2) (by decide +kernel) ⟨Nat.le_of_ble_eq_true rfl, Nat.le_of_ble_eq_true rfl⟩, hts _ wB114, trivial⟩ ⟨kP.blind, k_pre hP hD hS hE hA⟩ rfl rfl hl.1 rfl (lv_room (Nat.le_of_ble_eq_true rfl)) dX0_seep_105 ⟨Nat.zero_le _, Nat.zero_le _⟩) hD hS hA (fun H locs hP hD hS => ?_)
                have hP : va_P D vwCl (WX q cy (sR s4.2.2 10 r105) ++ rest) H := hP
                have hD : va_D A (WX q cy (sR s4.2.2 10 r105) ++ rest) := hD
                refine lv_iinc (v := (s4.2.1 + 1)) (lv' := [(3, .int (s4.2.1 + 1)), (2, .int ((if 30 < (s4.1 + (3 * a1)) then 30 else (s4.1 + (3 * a1))) - (if 1 < (if 30 < (s4.1 + (3 * a1)) then 30 else (s4.1 + (3 * a1))) then 1 else (if 30 < (s4.1 + (3 * a1)) then 30 else (s4.1 + (3 * a1)))))), (7, .int (if 1 < (if 30 < (s4.1 + (3 * a1)) then 30 else (s4.1 + (3 * a1))) then 1 else (if 30 < (s4.1 + (3 * a1)) then 30 else (s4.1 + (3 * a1))))), (6, .int 1), (5, .int (3 * a1)), (4, .int r17), (0, .ref (q 10)), (1, .int a1)]) hx hb dX0_seep_108 hl (k := 7) rfl (by rfl) (by decide) rfl (fun ls hl => ?_)
                refine lv_goto (tgt := 4) hx hb dX0_seep_111 (by decide) ?_
                obtain rfl := o_ret hf
                exact ih4 _ _ (lpK_r h4z) _ _ _ hP hD hS (lv_sub hl [6, 7, 1, 0] rfl) K4_0
            · have hf := o_ip c49 hf
              refine lv_iconst (v := 4) hx hb dX0_seep_52 (by decide) ?_
              refine lv_iload_n hx hb dX0_seep_53 rfl (lv_at hl 3 rfl) ?_
              refine lv_imul hx hb dX0_seep_54 ?_
              refine lv_goto (tgt := 69) hx hb dX0_seep_55 (by decide) ?_
              refine lv_istore (lv' := [(6, .int (4 * a1)), (5, .int (3 * a1)), (4, .int r17), (0, .ref (q 10)), (1, .int a1), (2, .int s4.1), (3, .int s4.2.1)]) hx hb dX0_seep_69 hl (by decide) rfl (fun ls hl => ?_)
              refine lv_iload_n hx hb dX0_seep_71 rfl (lv_at hl 5 rfl) ?_
              refine lv_iload hx hb dX0_seep_72 (lv_at hl 1 rfl) ?_
              refine lv_iadd hx hb dX0_seep_74 ?_
              refine lv_bipush (v := 30) hx hb dX0_seep_75 (by decide) ?_
              refine va_mmin hx hb (hml.trans hl.1.symm) hown (hts _ wB238) (hts _ wB239) (hts _ wB240) (hts _ wB241) (Nat.le_of_ble_eq_true rfl) (Nat.le_of_ble_eq_true rfl) (Nat.zero_le _) (Nat.zero_le _) dX0_seep_77 ?_
              refine lv_istore_n (lv' := [(2, .int (if 30 < (s4.1 + (3 * a1)) then 30 else (s4.1 + (3 * a1)))), (6, .int (4 * a1)), (5, .int (3 * a1)), (4, .int r17), (0, .ref (q 10)), (1, .int a1), (3, .int s4.2.1)]) hx hb dX0_seep_80 rfl hl (by decide) rfl (fun ls hl => ?_)
              refine lv_iload_n hx hb dX0_seep_81 rfl (lv_at hl 0 rfl) ?_
              refine lv_iload hx hb dX0_seep_82 (lv_at hl 1 rfl) ?_
              refine va_mmin hx hb (hml.trans hl.1.symm) hown (hts _ wB238) (hts _ wB239) (hts _ wB240) (hts _ wB241) (Nat.le_of_ble_eq_true rfl) (Nat.le_of_ble_eq_true rfl) (Nat.zero_le _) (Nat.zero_le _) dX0_seep_84 ?_
              refine lv_istore (lv' := [(7, .int (if (4 * a1) < (if 30 < (s4.1 + (3 * a1)) then 30 else (s4.1 + (3 * a1))) then (4 * a1) else (if 30 < (s4.1 + (3 * a1)) then 30 else (s4.1 + (3 * a1))))), (2, .int (if 30 < (s4.1 + (3 * a1)) then 30 else (s4.1 + (3 * a1)))), (6, .int (4 * a1)), (5, .int (3 * a1)), (4, .int r17), (0, .ref (q 10)), (1, .int a1), (3, .int s4.2.1)]) hx hb dX0_seep_87 hl (by decide) rfl (fun ls hl => ?_)
              refine lv_iload_n hx hb dX0_seep_89 rfl (lv_at hl 1 rfl) ?_
              refine lv_iload hx hb dX0_seep_90 (lv_at hl 0 rfl) ?_
              refine lv_isub hx hb dX0_seep_92 ?_
              refine lv_istore_n (lv' := [(2, .int ((if 30 < (s4.1 + (3 * a1)) then 30 else (s4.1 + (3 * a1))) - (if (4 * a1) < (if 30 < (s4.1 + (3 * a1)) then 30 else (s4.1 + (3 * a1))) then (4 * a1) else (if 30 < (s4.1 + (3 * a1)) then 30 else (s4.1 + (3 * a1)))))), (7, .int (if (4 * a1) < (if 30 < (s4.1 + (3 * a1)) then 30 else (s4.1 + (3 * a1))) then (4 * a1) else (if 30 < (s4.1 + (3 * a1)) then 30 else (s4.1 + (3 * a1))))), (6, .int (4 * a1)), (5, .int (3 * a1)), (4, .int r17), (0, .ref (q 10)), (1, .int a1), (3, .int s4.2.1)]) hx hb dX0_seep_93 rfl hl (by decide) rfl (fun ls hl => ?_)
              refine lv_aload_n hx hb dX0_seep_94 rfl (lv_at hl 5 rfl) ?_
              refine va_get (ci := 0) (v := .ref (q 14)) (C := RX0) (T := TX0) (N := 9) hx hb hts inlX0 hown hE.1 hP 10 rfl rfl 5 (by decide) (hts _ wB54) (fun _ h9 => h9) rfl dX0_seep_95 ?_
              refine lv_iload_n hx hb dX0_seep_98 rfl (lv_at hl 6 rfl) ?_
              refine lv_iload_n hx hb dX0_seep_99 rfl (lv_at hl 7 rfl) ?_
              obtain ⟨r100, h100r, hf⟩ := o_bs hf
              refine k_goi (va_runS (As := [.int a1, .int s4.2.1]) (rest := [.ref (q 14)]) ⟨hx, hb, hml, hown, hts⟩ (zX0_oilPlace l D cy sa (WX q cy s4.2.2 ++ rest) H.size a1 s4.2.1  r100  h100r) (va_cwS 2 hts (gB_S wB242 wB243 wB20 wB244) rfl rfl rfl (by decide +kernel) ⟨Nat.le_of_ble_eq_true rfl, Nat.le_of_ble_eq_true rfl⟩) ⟨kP.blind, k_pre hP hD hS hE hA⟩ rfl rfl hl.1 rfl (lv_room (Nat.le_of_ble_eq_true rfl)) dX0_seep_100 ⟨Nat.zero_le _, Nat.zero_le _⟩) hD hS hA (fun H locs hP hD hS => ?_)
              refine lv_iload hx hb dX0_seep_103 (lv_at hl 1 rfl) ?_
              obtain ⟨r105, h105r, hf⟩ := o_bs hf
              refine k_gov (va_runSN (As := [.ref (q 14), .int r100, .int (if (4 * a1) < (if 30 < (s4.1 + (3 * a1)) then 30 else (s4.1 + (3 * a1))) then (4 * a1) else (if 30 < (s4.1 + (3 * a1)) then 30 else (s4.1 + (3 * a1))))]) (rest := []) ⟨hx, hb, hml, hown, hts⟩ (zX5_set l D cy sa (WX q cy s4.2.2 ++ rest) H.size 14 (q 14) 360 (gR s4.2.2 10) r100 (if (4 * a1) < (if 30 < (s4.1 + (3 * a1)) then 30 else (s4.1 + (3 * a1))) then (4 * a1) else (if 30 < (s4.1 + (3 * a1)) then 30 else (s4.1 + (3 * a1)))) r105 rfl h105r) ⟨va_cnB 3 hts (gB_K wB115) rfl rfl rfl (hE.2.1.1 _ (List.mem_of_getElem? (i := 5) rfl)) (hts _ wB2) (by decide +kernel) ⟨Nat.le_of_ble_eq_true rfl, Nat.le_of_ble_eq_true rfl⟩, hts _ wB114, trivial⟩ ⟨kP.blind, k_pre hP hD hS hE hA⟩ rfl rfl hl.1 rfl (lv_room (Nat.le_of_ble_eq_true rfl)) dX0_seep_105 ⟨Nat.zero_le _, Nat.zero_le _⟩) hD hS hA (fun H locs hP hD hS => ?_)
              have hP : va_P D vwCl (WX q cy (sR s4.2.2 10 r105) ++ rest) H := hP
              have hD : va_D A (WX q cy (sR s4.2.2 10 r105) ++ rest) := hD
              refine lv_iinc (v := (s4.2.1 + 1)) (lv' := [(3, .int (s4.2.1 + 1)), (2, .int ((if 30 < (s4.1 + (3 * a1)) then 30 else (s4.1 + (3 * a1))) - (if (4 * a1) < (if 30 < (s4.1 + (3 * a1)) then 30 else (s4.1 + (3 * a1))) then (4 * a1) else (if 30 < (s4.1 + (3 * a1)) then 30 else (s4.1 + (3 * a1)))))), (7, .int (if (4 * a1) < (if 30 < (s4.1 + (3 * a1)) then 30 else (s4.1 + (3 * a1))) then (4 * a1) else (if 30 < (s4.1 + (3 * a1)) then 30 else (s4.1 + (3 * a1))))), (6, .int (4 * a1)), (5, .int (3 * a1)), (4, .int r17), (0, .ref (q 10)), (1, .int a1)]) hx hb dX0_seep_108 hl (k := 7) rfl (by rfl) (by decide) rfl (fun ls hl => ?_)
              refine lv_goto (tgt := 4) hx hb dX0_seep_111 (by decide) ?_
              obtain rfl := o_ret hf
              exact ih4 _ _ (lpK_r h4z) _ _ _ hP hD hS (lv_sub hl [6, 7, 1, 0] rfl) K4_0
        · have hf := o_ip c24 hf
          refine lv_iload_n hx hb dX0_seep_27 rfl (lv_at hl 2 rfl) ?_
          refine lv_goto (tgt := 44) hx hb dX0_seep_28 (by decide) ?_
          refine lv_istore (lv' := [(5, .int a1), (4, .int r17), (0, .ref (q 10)), (1, .int a1), (2, .int s4.1), (3, .int s4.2.1)]) hx hb dX0_seep_44 hl (by decide) rfl (fun ls hl => ?_)
          refine lv_iload hx hb dX0_seep_46 (lv_at hl 1 rfl) ?_
          refine lv_iconst (v := 2) hx hb dX0_seep_48 (by decide) ?_
          refine lv_icmp_ne (tgt := 58) hx hb dX0_seep_49 (by decide) (fun c49 => ?_) (fun c49 => ?_)
          · have hf := o_in c49 hf
            refine lv_iload hx hb dX0_seep_58 (lv_at hl 1 rfl) ?_
            refine lv_iconst (v := 1) hx hb dX0_seep_60 (by decide) ?_
            refine lv_icmp_ne (tgt := 68) hx hb dX0_seep_61 (by decide) (fun c61 => ?_) (fun c61 => ?_)
            · have hf := o_in c61 hf
              refine lv_iconst (v := 0) hx hb dX0_seep_68 (by decide) ?_
              refine lv_istore (lv' := [(6, .int 0), (5, .int a1), (4, .int r17), (0, .ref (q 10)), (1, .int a1), (2, .int s4.1), (3, .int s4.2.1)]) hx hb dX0_seep_69 hl (by decide) rfl (fun ls hl => ?_)
              refine lv_iload_n hx hb dX0_seep_71 rfl (lv_at hl 5 rfl) ?_
              refine lv_iload hx hb dX0_seep_72 (lv_at hl 1 rfl) ?_
              refine lv_iadd hx hb dX0_seep_74 ?_
              refine lv_bipush (v := 30) hx hb dX0_seep_75 (by decide) ?_
              refine va_mmin hx hb (hml.trans hl.1.symm) hown (hts _ wB238) (hts _ wB239) (hts _ wB240) (hts _ wB241) (Nat.le_of_ble_eq_true rfl) (Nat.le_of_ble_eq_true rfl) (Nat.zero_le _) (Nat.zero_le _) dX0_seep_77 ?_
              refine lv_istore_n (lv' := [(2, .int (if 30 < (s4.1 + a1) then 30 else (s4.1 + a1))), (6, .int 0), (5, .int a1), (4, .int r17), (0, .ref (q 10)), (1, .int a1), (3, .int s4.2.1)]) hx hb dX0_seep_80 rfl hl (by decide) rfl (fun ls hl => ?_)
              refine lv_iload_n hx hb dX0_seep_81 rfl (lv_at hl 0 rfl) ?_
              refine lv_iload hx hb dX0_seep_82 (lv_at hl 1 rfl) ?_
              refine va_mmin hx hb (hml.trans hl.1.symm) hown (hts _ wB238) (hts _ wB239) (hts _ wB240) (hts _ wB241) (Nat.le_of_ble_eq_true rfl) (Nat.le_of_ble_eq_true rfl) (Nat.zero_le _) (Nat.zero_le _) dX0_seep_84 ?_
              refine lv_istore (lv' := [(7, .int (if 0 < (if 30 < (s4.1 + a1) then 30 else (s4.1 + a1)) then 0 else (if 30 < (s4.1 + a1) then 30 else (s4.1 + a1)))), (2, .int (if 30 < (s4.1 + a1) then 30 else (s4.1 + a1))), (6, .int 0), (5, .int a1), (4, .int r17), (0, .ref (q 10)), (1, .int a1), (3, .int s4.2.1)]) hx hb dX0_seep_87 hl (by decide) rfl (fun ls hl => ?_)
              refine lv_iload_n hx hb dX0_seep_89 rfl (lv_at hl 1 rfl) ?_
              refine lv_iload hx hb dX0_seep_90 (lv_at hl 0 rfl) ?_
              refine lv_isub hx hb dX0_seep_92 ?_
              refine lv_istore_n (lv' := [(2, .int ((if 30 < (s4.1 + a1) then 30 else (s4.1 + a1)) - (if 0 < (if 30 < (s4.1 + a1) then 30 else (s4.1 + a1)) then 0 else (if 30 < (s4.1 + a1) then 30 else (s4.1 + a1))))), (7, .int (if 0 < (if 30 < (s4.1 + a1) then 30 else (s4.1 + a1)) then 0 else (if 30 < (s4.1 + a1) then 30 else (s4.1 + a1)))), (6, .int 0), (5, .int a1), (4, .int r17), (0, .ref (q 10)), (1, .int a1), (3, .int s4.2.1)]) hx hb dX0_seep_93 rfl hl (by decide) rfl (fun ls hl => ?_)
              refine lv_aload_n hx hb dX0_seep_94 rfl (lv_at hl 5 rfl) ?_
              refine va_get (ci := 0) (v := .ref (q 14)) (C := RX0) (T := TX0) (N := 9) hx hb hts inlX0 hown hE.1 hP 10 rfl rfl 5 (by decide) (hts _ wB54) (fun _ h9 => h9) rfl dX0_seep_95 ?_
              refine lv_iload_n hx hb dX0_seep_98 rfl (lv_at hl 6 rfl) ?_
              refine lv_iload_n hx hb dX0_seep_99 rfl (lv_at hl 7 rfl) ?_
              obtain ⟨r100, h100r, hf⟩ := o_bs hf
              refine k_goi (va_runS (As := [.int a1, .int s4.2.1]) (rest := [.ref (q 14)]) ⟨hx, hb, hml, hown, hts⟩ (zX0_oilPlace l D cy sa (WX q cy s4.2.2 ++ rest) H.size a1 s4.2.1  r100  h100r) (va_cwS 2 hts (gB_S wB242 wB243 wB20 wB244) rfl rfl rfl (by decide +kernel) ⟨Nat.le_of_ble_eq_true rfl, Nat.le_of_ble_eq_true rfl⟩) ⟨kP.blind, k_pre hP hD hS hE hA⟩ rfl rfl hl.1 rfl (lv_room (Nat.le_of_ble_eq_true rfl)) dX0_seep_100 ⟨Nat.zero_le _, Nat.zero_le _⟩) hD hS hA (fun H locs hP hD hS => ?_)
              refine lv_iload hx hb dX0_seep_103 (lv_at hl 1 rfl) ?_
              obtain ⟨r105, h105r, hf⟩ := o_bs hf
              refine k_gov (va_runSN (As := [.ref (q 14), .int r100, .int (if 0 < (if 30 < (s4.1 + a1) then 30 else (s4.1 + a1)) then 0 else (if 30 < (s4.1 + a1) then 30 else (s4.1 + a1)))]) (rest := []) ⟨hx, hb, hml, hown, hts⟩ (zX5_set l D cy sa (WX q cy s4.2.2 ++ rest) H.size 14 (q 14) 360 (gR s4.2.2 10) r100 (if 0 < (if 30 < (s4.1 + a1) then 30 else (s4.1 + a1)) then 0 else (if 30 < (s4.1 + a1) then 30 else (s4.1 + a1))) r105 rfl h105r) ⟨va_cnB 3 hts (gB_K wB115) rfl rfl rfl (hE.2.1.1 _ (List.mem_of_getElem? (i := 5) rfl)) (hts _ wB2) (by decide +kernel) ⟨Nat.le_of_ble_eq_true rfl, Nat.le_of_ble_eq_true rfl⟩, hts _ wB114, trivial⟩ ⟨kP.blind, k_pre hP hD hS hE hA⟩ rfl rfl hl.1 rfl (lv_room (Nat.le_of_ble_eq_true rfl)) dX0_seep_105 ⟨Nat.zero_le _, Nat.zero_le _⟩) hD hS hA (fun H locs hP hD hS => ?_)
              have hP : va_P D vwCl (WX q cy (sR s4.2.2 10 r105) ++ rest) H := hP
              have hD : va_D A (WX q cy (sR s4.2.2 10 r105) ++ rest) := hD
              refine lv_iinc (v := (s4.2.1 + 1)) (lv' := [(3, .int (s4.2.1 + 1)), (2, .int ((if 30 < (s4.1 + a1) then 30 else (s4.1 + a1)) - (if 0 < (if 30 < (s4.1 + a1) then 30 else (s4.1 + a1)) then 0 else (if 30 < (s4.1 + a1) then 30 else (s4.1 + a1))))), (7, .int (if 0 < (if 30 < (s4.1 + a1) then 30 else (s4.1 + a1)) then 0 else (if 30 < (s4.1 + a1) then 30 else (s4.1 + a1)))), (6, .int 0), (5, .int a1), (4, .int r17), (0, .ref (q 10)), (1, .int a1)]) hx hb dX0_seep_108 hl (k := 7) rfl (by rfl) (by decide) rfl (fun ls hl => ?_)
              refine lv_goto (tgt := 4) hx hb dX0_seep_111 (by decide) ?_
              obtain rfl := o_ret hf
              exact ih4 _ _ (lpK_r h4z) _ _ _ hP hD hS (lv_sub hl [6, 7, 1, 0] rfl) K4_0
            · have hf := o_ip c61 hf
              refine lv_iconst (v := 1) hx hb dX0_seep_64 (by decide) ?_
              refine lv_goto (tgt := 69) hx hb dX0_seep_65 (by decide) ?_
              refine lv_istore (lv' := [(6, .int 1), (5, .int a1), (4, .int r17), (0, .ref (q 10)), (1, .int a1), (2, .int s4.1), (3, .int s4.2.1)]) hx hb dX0_seep_69 hl (by decide) rfl (fun ls hl => ?_)
              refine lv_iload_n hx hb dX0_seep_71 rfl (lv_at hl 5 rfl) ?_
              refine lv_iload hx hb dX0_seep_72 (lv_at hl 1 rfl) ?_
              refine lv_iadd hx hb dX0_seep_74 ?_
              refine lv_bipush (v := 30) hx hb dX0_seep_75 (by decide) ?_
              refine va_mmin hx hb (hml.trans hl.1.symm) hown (hts _ wB238) (hts _ wB239) (hts _ wB240) (hts _ wB241) (Nat.le_of_ble_eq_true rfl) (Nat.le_of_ble_eq_true rfl) (Nat.zero_le _) (Nat.zero_le _) dX0_seep_77 ?_
              refine lv_istore_n (lv' := [(2, .int (if 30 < (s4.1 + a1) then 30 else (s4.1 + a1))), (6, .int 1), (5, .int a1), (4, .int r17), (0, .ref (q 10)), (1, .int a1), (3, .int s4.2.1)]) hx hb dX0_seep_80 rfl hl (by decide) rfl (fun ls hl => ?_)
              refine lv_iload_n hx hb dX0_seep_81 rfl (lv_at hl 0 rfl) ?_
              refine lv_iload hx hb dX0_seep_82 (lv_at hl 1 rfl) ?_
              refine va_mmin hx hb (hml.trans hl.1.symm) hown (hts _ wB238) (hts _ wB239) (hts _ wB240) (hts _ wB241) (Nat.le_of_ble_eq_true rfl) (Nat.le_of_ble_eq_true rfl) (Nat.zero_le _) (Nat.zero_le _) dX0_seep_84 ?_
              refine lv_istore (lv' := [(7, .int (if 1 < (if 30 < (s4.1 + a1) then 30 else (s4.1 + a1)) then 1 else (if 30 < (s4.1 + a1) then 30 else (s4.1 + a1)))), (2, .int (if 30 < (s4.1 + a1) then 30 else (s4.1 + a1))), (6, .int 1), (5, .int a1), (4, .int r17), (0, .ref (q 10)), (1, .int a1), (3, .int s4.2.1)]) hx hb dX0_seep_87 hl (by decide) rfl (fun ls hl => ?_)
              refine lv_iload_n hx hb dX0_seep_89 rfl (lv_at hl 1 rfl) ?_
              refine lv_iload hx hb dX0_seep_90 (lv_at hl 0 rfl) ?_
              refine lv_isub hx hb dX0_seep_92 ?_
              refine lv_istore_n (lv' := [(2, .int ((if 30 < (s4.1 + a1) then 30 else (s4.1 + a1)) - (if 1 < (if 30 < (s4.1 + a1) then 30 else (s4.1 + a1)) then 1 else (if 30 < (s4.1 + a1) then 30 else (s4.1 + a1))))), (7, .int (if 1 < (if 30 < (s4.1 + a1) then 30 else (s4.1 + a1)) then 1 else (if 30 < (s4.1 + a1) then 30 else (s4.1 + a1)))), (6, .int 1), (5, .int a1), (4, .int r17), (0, .ref (q 10)), (1, .int a1), (3, .int s4.2.1)]) hx hb dX0_seep_93 rfl hl (by decide) rfl (fun ls hl => ?_)
              refine lv_aload_n hx hb dX0_seep_94 rfl (lv_at hl 5 rfl) ?_
              refine va_get (ci := 0) (v := .ref (q 14)) (C := RX0) (T := TX0) (N := 9) hx hb hts inlX0 hown hE.1 hP 10 rfl rfl 5 (by decide) (hts _ wB54) (fun _ h9 => h9) rfl dX0_seep_95 ?_
              refine lv_iload_n hx hb dX0_seep_98 rfl (lv_at hl 6 rfl) ?_
              refine lv_iload_n hx hb dX0_seep_99 rfl (lv_at hl 7 rfl) ?_
              obtain ⟨r100, h100r, hf⟩ := o_bs hf
              refine k_goi (va_runS (As := [.int a1, .int s4.2.1]) (rest := [.ref (q 14)]) ⟨hx, hb, hml, hown, hts⟩ (zX0_oilPlace l D cy sa (WX q cy s4.2.2 ++ rest) H.size a1 s4.2.1  r100  h100r) (va_cwS 2 hts (gB_S wB242 wB243 wB20 wB244) rfl rfl rfl (by decide +kernel) ⟨Nat.le_of_ble_eq_true rfl, Nat.le_of_ble_eq_true rfl⟩) ⟨kP.blind, k_pre hP hD hS hE hA⟩ rfl rfl hl.1 rfl (lv_room (Nat.le_of_ble_eq_true rfl)) dX0_seep_100 ⟨Nat.zero_le _, Nat.zero_le _⟩) hD hS hA (fun H locs hP hD hS => ?_)
              refine lv_iload hx hb dX0_seep_103 (lv_at hl 1 rfl) ?_
              obtain ⟨r105, h105r, hf⟩ := o_bs hf
              refine k_gov (va_runSN (As := [.ref (q 14), .int r100, .int (if 1 < (if 30 < (s4.1 + a1) then 30 else (s4.1 + a1)) then 1 else (if 30 < (s4.1 + a1) then 30 else (s4.1 + a1)))]) (rest := []) ⟨hx, hb, hml, hown, hts⟩ (zX5_set l D cy sa (WX q cy s4.2.2 ++ rest) H.size 14 (q 14) 360 (gR s4.2.2 10) r100 (if 1 < (if 30 < (s4.1 + a1) then 30 else (s4.1 + a1)) then 1 else (if 30 < (s4.1 + a1) then 30 else (s4.1 + a1))) r105 rfl h105r) ⟨va_cnB 3 hts (gB_K wB115) rfl rfl rfl (hE.2.1.1 _ (List.mem_of_getElem? (i := 5) rfl)) (hts _ wB2) (by decide +kernel) ⟨Nat.le_of_ble_eq_true rfl, Nat.le_of_ble_eq_true rfl⟩, hts _ wB114, trivial⟩ ⟨kP.blind, k_pre hP hD hS hE hA⟩ rfl rfl hl.1 rfl (lv_room (Nat.le_of_ble_eq_true rfl)) dX0_seep_105 ⟨Nat.zero_le _, Nat.zero_le _⟩) hD hS hA (fun H locs hP hD hS => ?_)
              have hP : va_P D vwCl (WX q cy (sR s4.2.2 10 r105) ++ rest) H := hP
              have hD : va_D A (WX q cy (sR s4.2.2 10 r105) ++ rest) := hD
              refine lv_iinc (v := (s4.2.1 + 1)) (lv' := [(3, .int (s4.2.1 + 1)), (2, .int ((if 30 < (s4.1 + a1) then 30 else (s4.1 + a1)) - (if 1 < (if 30 < (s4.1 + a1) then 30 else (s4.1 + a1)) then 1 else (if 30 < (s4.1 + a1) then 30 else (s4.1 + a1))))), (7, .int (if 1 < (if 30 < (s4.1 + a1) then 30 else (s4.1 + a1)) then 1 else (if 30 < (s4.1 + a1) then 30 else (s4.1 + a1)))), (6, .int 1), (5, .int a1), (4, .int r17), (0, .ref (q 10)), (1, .int a1)]) hx hb dX0_seep_108 hl (k := 7) rfl (by rfl) (by decide) rfl (fun ls hl => ?_)
              refine lv_goto (tgt := 4) hx hb dX0_seep_111 (by decide) ?_
              obtain rfl := o_ret hf
              exact ih4 _ _ (lpK_r h4z) _ _ _ hP hD hS (lv_sub hl [6, 7, 1, 0] rfl) K4_0
          · have hf := o_ip c49 hf
            refine lv_iconst (v := 4) hx hb dX0_seep_52 (by decide) ?_
            refine lv_iload_n hx hb dX0_seep_53 rfl (lv_at hl 3 rfl) ?_
            refine lv_imul hx hb dX0_seep_54 ?_
            refine lv_goto (tgt := 69) hx hb dX0_seep_55 (by decide) ?_
            refine lv_istore (lv' := [(6, .int (4 * a1)), (5, .int a1), (4, .int r17), (0, .ref (q 10)), (1, .int a1), (2, .int s4.1), (3, .int s4.2.1)]) hx hb dX0_seep_69 hl (by decide) rfl (fun ls hl => ?_)
            refine lv_iload_n hx hb dX0_seep_71 rfl (lv_at hl 5 rfl) ?_
            refine lv_iload hx hb dX0_seep_72 (lv_at hl 1 rfl) ?_
            refine lv_iadd hx hb dX0_seep_74 ?_
            refine lv_bipush (v := 30) hx hb dX0_seep_75 (by decide) ?_
            refine va_mmin hx hb (hml.trans hl.1.symm) hown (hts _ wB238) (hts _ wB239) (hts _ wB240) (hts _ wB241) (Nat.le_of_ble_eq_true rfl) (Nat.le_of_ble_eq_true rfl) (Nat.zero_le _) (Nat.zero_le _) dX0_seep_77 ?_
            refine lv_istore_n (lv' := [(2, .int (if 30 < (s4.1 + a1) then 30 else (s4.1 + a1))), (6, .int (4 * a1)), (5, .int a1), (4, .int r17), (0, .ref (q 10)), (1, .int a1), (3, .int s4.2.1)]) hx hb dX0_seep_80 rfl hl (by decide) rfl (fun ls hl => ?_)
            refine lv_iload_n hx hb dX0_seep_81 rfl (lv_at hl 0 rfl) ?_
            refine lv_iload hx hb dX0_seep_82 (lv_at hl 1 rfl) ?_
            refine va_mmin hx hb (hml.trans hl.1.symm) hown (hts _ wB238) (hts _ wB239) (hts _ wB240) (hts _ wB241) (Nat.le_of_ble_eq_true rfl) (Nat.le_of_ble_eq_true rfl) (Nat.zero_le _) (Nat.zero_le _) dX0_seep_84 ?_
            refine lv_istore (lv' := [(7, .int (if (4 * a1) < (if 30 < (s4.1 + a1) then 30 else (s4.1 + a1)) then (4 * a1) else (if 30 < (s4.1 + a1) then 30 else (s4.1 + a1)))), (2, .int (if 30 < (s4.1 + a1) then 30 else (s4.1 + a1))), (6, .int (4 * a1)), (5, .int a1), (4, .int r17), (0, .ref (q 10)), (1, .int a1), (3, .int s4.2.1)]) hx hb dX0_seep_87 hl (by decide) rfl (fun ls hl => ?_)
            refine lv_iload_n hx hb dX0_seep_89 rfl (lv_at hl 1 rfl) ?_
            refine lv_iload hx hb dX0_seep_90 (lv_at hl 0 rfl) ?_
            refine lv_isub hx hb dX0_seep_92 ?_
            refine lv_istore_n (lv' := [(2, .int ((if 30 < (s4.1 + a1) then 30 else (s4.1 + a1)) - (if (4 * a1) < (if 30 < (s4.1 + a1) then 30 else (s4.1 + a1)) then (4 * a1) else (if 30 < (s4.1 + a1) then 30 else (s4.1 + a1))))), (7, .int (if (4 * a1) < (if 30 < (s4.1 + a1) then 30 else (s4.1 + a1)) then (4 * a1) else (if 30 < (s4.1 + a1) then 30 else (s4.1 + a1)))), (6, .int (4 * a1)), (5, .int a1), (4, .int r17), (0, .ref (q 10)), (1, .int a1), (3, .int s4.2.1)]) hx hb dX0_seep_93 rfl hl (by decide) rfl (fun ls hl => ?_)
            refine lv_aload_n hx hb dX0_seep_94 rfl (lv_at hl 5 rfl) ?_
            refine va_get (ci := 0) (v := .ref (q 14)) (C := RX0) (T := TX0) (N := 9) hx hb hts inlX0 hown hE.1 hP 10 rfl rfl 5 (by decide) (hts _ wB54) (fun _ h9 => h9) rfl dX0_seep_95 ?_
            refine lv_iload_n hx hb dX0_seep_98 rfl (lv_at hl 6 rfl) ?_
            refine lv_iload_n hx hb dX0_seep_99 rfl (lv_at hl 7 rfl) ?_
            obtain ⟨r100, h100r, hf⟩ := o_bs hf
            refine k_goi (va_runS (As := [.int a1, .int s4.2.1]) (rest := [.ref (q 14)]) ⟨hx, hb, hml, hown, hts⟩ (zX0_oilPlace l D cy sa (WX q cy s4.2.2 ++ rest) H.size a1 s4.2.1  r100  h100r) (va_cwS 2 hts (gB_S wB242 wB243 wB20 wB244) rfl rfl rfl (by decide +kernel) ⟨Nat.le_of_ble_eq_true rfl, Nat.le_of_ble_eq_true rfl⟩) ⟨kP.blind, k_pre hP hD hS hE hA⟩ rfl rfl hl.1 rfl (lv_room (Nat.le_of_ble_eq_true rfl)) dX0_seep_100 ⟨Nat.zero_le _, Nat.zero_le _⟩) hD hS hA (fun H locs hP hD hS => ?_)
            refine lv_iload hx hb dX0_seep_103 (lv_at hl 1 rfl) ?_
            obtain ⟨r105, h105r, hf⟩ := o_bs hf
            refine k_gov (va_runSN (As := [.ref (q 14), .int r100, .int (if (4 * a1) < (if 30 < (s4.1 + a1) then 30 else (s4.1 + a1)) then (4 * a1) else (if 30 < (s4.1 + a1) then 30 else (s4.1 + a1)))]) (rest := []) ⟨hx, hb, hml, hown, hts⟩ (zX5_set l D cy sa (WX q cy s4.2.2 ++ rest) H.size 14 (q 14) 360 (gR s4.2.2 10) r100 (if (4 * a1) < (if 30 < (s4.1 + a1) then 30 else (s4.1 + a1)) then (4 * a1) else (if 30 < (s4.1 + a1) then 30 else (s4.1 + a1))) r105 rfl h105r) ⟨va_cnB 3 hts (gB_K wB115) rfl rfl rfl (hE.2.1.1 _ (List.mem_of_getElem? (i := 5) rfl)) (hts _ wB2) (by decide +kernel) ⟨Nat.le_of_ble_eq_true rfl, Nat.le_of_ble_eq_true rfl⟩, hts _ wB114, trivial⟩ ⟨kP.blind, k_pre hP hD hS hE hA⟩ rfl rfl hl.1 rfl (lv_room (Nat.le_of_ble_eq_true rfl)) dX0_seep_105 ⟨Nat.zero_le _, Nat.zero_le _⟩) hD hS hA (fun H locs hP hD hS => ?_)
            have hP : va_P D vwCl (WX q cy (sR s4.2.2 10 r105) ++ rest) H := hP
            have hD : va_D A (WX q cy (sR s4.2.2 10 r105) ++ rest) := hD
            refine lv_iinc (v := (s4.2.1 + 1)) (lv' := [(3, .int (s4.2.1 + 1)), (2, .int ((if 30 < (s4.1 + a1) then 30 else (s4.1 + a1)) - (if (4 * a1) < (if 30 < (s4.1 + a1) then 30 else (s4.1 + a1)) then (4 * a1) else (if 30 < (s4.1 + a1) then 30 else (s4.1 + a1))))), (7, .int (if (4 * a1) < (if 30 < (s4.1 + a1) then 30 else (s4.1 + a1)) then (4 * a1) else (if 30 < (s4.1 + a1) then 30 else (s4.1 + a1)))), (6, .int (4 * a1)), (5, .int a1), (4, .int r17), (0, .ref (q 10)), (1, .int a1)]) hx hb dX0_seep_108 hl (k := 7) rfl (by rfl) (by decide) rfl (fun ls hl => ?_)
            refine lv_goto (tgt := 4) hx hb dX0_seep_111 (by decide) ?_
            obtain rfl := o_ret hf
            exact ih4 _ _ (lpK_r h4z) _ _ _ hP hD hS (lv_sub hl [6, 7, 1, 0] rfl) K4_0
  obtain ⟨e4, h4q, hf⟩ := o_bs hf
  obtain ⟨n4v, h4q⟩ := lpF_ex h4q
  refine L4 n4v _ e4 h4q _ _ _ hP hD hS (lv_sub hl [2, 3, 1, 0] rfl) ?_
  intro H locs ls hP hD hS hl
  obtain rfl := o_ret hf
  exact k_vret hx hb hr hP hD hS (Nat.zero_le _) (Nat.zero_le _) hlocks dX0_seep_114
noncomputable def mX0_read_s17 (c2 : Int32) (s17 : Int32 × KS) : Option ((KS) ⊕ (Int32 × KS)) :=
  if c2 ≤ s17.1 then
  (some (.inl s17.2))
  else
  (if (gI s17.2 5) = (-1) then
  ((mX0_beginsToken 120 (gR s17.2 1) s17.1).bind fun r32 =>
  if r32 = 0 then
  (some (.inr ((s17.1 + 1), s17.2)))
  else
  ((mX0_tokenEnd 120 (gR s17.2 1) s17.1 c2).bind fun r44 =>
  (mX0_takesToken s17.2 s17.1 r44).bind fun r47 =>
  if r47.1 = 0 then
  (some (.inr ((s17.1 + 1), (sI r47.2 5 s17.1))))
  else
  (some (.inr ((s17.1 + 1), r47.2)))))
  else
  (some (.inl s17.2)))
noncomputable def mX0_read_s86  (s86 : Int32 × KS) : Option ((KS) ⊕ (Int32 × KS)) :=
  if 3 < s86.1 then
  (some (.inl s86.2))
  else
  ((mX0_seep s86.2 s86.1).bind fun r93 =>
  some (.inr ((s86.1 + 1), r93)))
noncomputable def mX0_read (u : KS) (a2 : Int32) : Option (KS) :=
  (lpF (mX0_read_s17 a2) (0, (sI (sI (sI u 5 (-1)) 6 0) 7 0))).bind fun e17 =>
  if (gI e17 5) = (-1) then
  (if (gI e17 7) = 0 then
  ((lpF mX0_read_s86 (1, e17)).bind fun e86 =>
  some e86)
  else
  ((lpF mX0_read_s86 (1, (sI e17 5 a2))).bind fun e86 =>
  some e86))
  else
  ((lpF mX0_read_s86 (1, e17)).bind fun e86 =>
  some e86)
abbrev rmX0_read : Room := { frames := 7, cells := 0, slots := 0, locals := 154 }
set_option maxRecDepth 100000 in
set_option maxHeartbeats 4000000 in
theorem zX0_read (l : Launch) (D : va_G) (cy : Nat → ClassId) (sa : Nat → Nat) (q : Nat → Nat) (rest : va_W) (sz : Nat) (u : KS) (a2 : Int32) (res : KS) (hf : mX0_read u a2 = some res) : kMv l yX0_read (wsK yX0_read cX0_read 4 none) rmX0_read D cy sa (WX q cy u ++ rest) sz [.ref (q 10), .ref (q 4), .int a2] (WX q cy res ++ rest) 0 0 := by
  refine kM_of (Qc := fun A => kQv D A (WX q cy res ++ rest)) (cc := cX0_read) (maxL := 4) (ret := none) (by decide) (Nat.le_of_ble_eq_true rfl) ?_
  intro p e s m below meth c A hx hb hml hr hts hown hlocks hin hA hP hD hS hE hsz ls hl
  have hown : s.vm.findClass RX0 = some m.cls := hown
  obtain ⟨H, hH0⟩ : ∃ H, H = s.heap := ⟨_, rfl⟩
  obtain ⟨locs, hlocs0⟩ : ∃ locs : List Loc, locs = [] := ⟨_, rfl⟩
  have hP : va_P D vwCl (WX q cy u ++ rest) H := by rw [hH0]; exact hP
  have hS : va_S A s.heap H locs := by rw [hH0, hlocs0]; exact hS
  have hl : lv_has ls 4 [(0, .ref (q 10)), (1, .ref (q 4)), (2, .int a2)] := hl
  suffices hgoal : W p l e rmX0_read s m ([.ref (q 10), .ref (q 4), .int a2] : List Value).toArray below meth c H locs 0 0 (MQ below (kQv D A (WX q cy res ++ rest)) ([.ref (q 10), .ref (q 4), .int a2] : List Value).toArray s 0 0 A) (F0 m 0 ls []) by rw [hH0, hlocs0] at hgoal; exact hgoal
  clear hH0 hlocs0
  unfold mX0_read at hf
  refine lv_aload_n hx hb dX0_read_0 rfl (lv_at hl 0 rfl) ?_
  refine lv_iconst (v := (-1)) hx hb dX0_read_1 (by decide) ?_
  refine va_put (ci := 0) (v := .int (-1)) (ty := .int) (C := RX0) (T := TX0) (N := 9) hx hb hts inlX0 tyX0 tyX0_ok nmX0 hown hE.1 hP hD hS 10 rfl rfl 0 (by decide) (hts _ wB50) (fun _ h9 => h9) rfl (by decide +kernel) rfl rfl (Nat.le_of_ble_eq_true rfl) dX0_read_2 (fun H locs hP hD hS => ?_)
  have hP : va_P D vwCl (WX q cy (sI u 5 (-1)) ++ rest) H := hP
  have hD : va_D A (WX q cy (sI u 5 (-1)) ++ rest) := hD
  refine lv_aload_n hx hb dX0_read_5 rfl (lv_at hl 0 rfl) ?_
  refine lv_iconst (v := 0) hx hb dX0_read_6 (by decide) ?_
  refine va_put (ci := 0) (v := .int 0) (ty := .int) (C := RX0) (T := TX0) (N := 9) hx hb hts inlX0 tyX0 tyX0_ok nmX0 hown hE.1 hP hD hS 10 rfl rfl 1 (by decide) (hts _ wB155) (fun _ h9 => h9) rfl (by decide +kernel) rfl rfl (Nat.le_of_ble_eq_true rfl) dX0_read_7 (fun H locs hP hD hS => ?_)
  have hQ : ∀ (xb : KS) (x0 : Int32) (xn : Int32), (WX q cy (sI xb 5 x0) ++ rest).set 10 (q 10, .inr (0, [.int (gI (sI xb 5 x0) 5), .int (gI (sI xb 5 x0) 6), .ref (q 11), .ref (q 12), .ref (q 13), .ref (q 14), .int (gI (sI xb 5 x0) 7), .int (gI (sI xb 5 x0) 8), .int (gI (sI xb 5 x0) 9)].set 1 (.int xn))) = WX q cy (sI (sI xb 5 x0) 6 xn) ++ rest := fun _ _ _ => rfl
  have hP : va_P D vwCl (WX q cy (sI (sI u 5 (-1)) 6 0) ++ rest) H := k_wP (hQ u (-1) 0) hP
  have hD : va_D A (WX q cy (sI (sI u 5 (-1)) 6 0) ++ rest) := k_wD (hQ u (-1) 0) hD
  clear hQ
  refine lv_aload_n hx hb dX0_read_10 rfl (lv_at hl 0 rfl) ?_
  refine lv_iconst (v := 0) hx hb dX0_read_11 (by decide) ?_
  refine va_put (ci := 0) (v := .int 0) (ty := .int) (C := RX0) (T := TX0) (N := 9) hx hb hts inlX0 tyX0 tyX0_ok nmX0 hown hE.1 hP hD hS 10 rfl rfl 6 (by decide) (hts _ wB156) (fun _ h9 => h9) rfl (by decide +kernel) rfl rfl (Nat.le_of_ble_eq_true rfl) dX0_read_12 (fun H locs hP hD hS => ?_)
  have hQ : ∀ (xb : KS) (x0 : Int32) (x1 : Int32) (xn : Int32), (WX q cy (sI (sI xb 5 x0) 6 x1) ++ rest).set 10 (q 10, .inr (0, [.int (gI (sI (sI xb 5 x0) 6 x1) 5), .int (gI (sI (sI xb 5 x0) 6 x1) 6), .ref (q 11), .ref (q 12), .ref (q 13), .ref (q 14), .int (gI (sI (sI xb 5 x0) 6 x1) 7), .int (gI (sI (sI xb 5 x0) 6 x1) 8), .int (gI (sI (sI xb 5 x0) 6 x1) 9)].set 6 (.int xn))) = WX q cy (sI (sI (sI xb 5 x0) 6 x1) 7 xn) ++ rest := fun _ _ _ _ => rfl
  have hP : va_P D vwCl (WX q cy (sI (sI (sI u 5 (-1)) 6 0) 7 0) ++ rest) H := k_wP (hQ u (-1) 0 0) hP
  have hD : va_D A (WX q cy (sI (sI (sI u 5 (-1)) 6 0) 7 0) ++ rest) := k_wD (hQ u (-1) 0 0) hD
  clear hQ
  refine lv_iconst (v := 0) hx hb dX0_read_15 (by decide) ?_
  refine lv_istore_n (lv' := [(3, .int 0), (0, .ref (q 10)), (1, .ref (q 4)), (2, .int a2)]) hx hb dX0_read_16 rfl hl (by decide) rfl (fun ls hl => ?_)
  have L17 : ∀ (n17v : Nat) (s17 : Int32 × KS) (e17 : KS), lpO (mX0_read_s17 a2) n17v s17 = some e17 → ∀ (H : Heap) (locs : List Loc) (ls : Array Slot), va_P D vwCl (WX q cy s17.2 ++ rest) H → va_D A (WX q cy s17.2 ++ rest) → va_S A s.heap H locs → lv_has ls 4 [(0, .ref (q 10)), (1, .ref (q 4)), (2, .int a2), (3, .int s17.1)] → (∀ (H : Heap) (locs : List Loc) (ls : Array Slot), va_P D vwCl (WX q cy e17 ++ rest) H → va_D A (WX q cy e17 ++ rest) → va_S A s.heap H locs → lv_has ls 4 [(0, .ref (q 10)), (2, .int a2)] → W p l e rmX0_read s m ([.ref (q 10), .ref (q 4), .int a2] : List Value).toArray below meth c H locs 0 0 (MQ below (kQv D A (WX q cy res ++ rest)) ([.ref (q 10), .ref (q 4), .int a2] : List Value).toArray s 0 0 A) (F0 m 64 ls [])) → W p l e rmX0_read s m ([.ref (q 10), .ref (q 4), .int a2] : List Value).toArray below meth c H locs 0 0 (MQ below (kQv D A (WX q cy res ++ rest)) ([.ref (q 10), .ref (q 4), .int a2] : List Value).toArray s 0 0 A) (F0 m 17 ls []) := by
    intro n17v
    induction n17v with
    | zero => intro s17 e17 h; exact (lpO_z h).elim
    | succ n17v ih17 =>
      intro s17 e17 h17z H locs ls hP hD hS hl K17_0
      obtain ⟨x17, hf, h17z⟩ := lpO_s h17z
      unfold mX0_read_s17 at hf
      refine lv_iload_n hx hb dX0_read_17 rfl (lv_at hl 3 rfl) ?_
      refine lv_iload_n hx hb dX0_read_18 rfl (lv_at hl 2 rfl) ?_
      refine lv_icmp_ge (tgt := 64) hx hb dX0_read_19 (by decide) (fun c19 => ?_) (fun c19 => ?_)
      · have hf := o_ip c19 hf
        obtain rfl := o_ret hf
        obtain rfl := lpK_l h17z
        exact K17_0 _ _ _ hP hD hS (lv_sub hl [0, 2] rfl)
      · have hf := o_in c19 hf
        refine lv_aload_n hx hb dX0_read_22 rfl (lv_at hl 0 rfl) ?_
        refine va_get (ci := 0) (v := .int (gI s17.2 5)) (C := RX0) (T := TX0) (N := 9) hx hb hts inlX0 hown hE.1 hP 10 rfl rfl 0 (by decide) (hts _ wB50) (fun _ h9 => h9) rfl dX0_read_23 ?_
        refine lv_iconst (v := (-1)) hx hb dX0_read_26 (by decide) ?_
        refine lv_icmp_ne (tgt := 64) hx hb dX0_read_27 (by decide) (fun c27 => ?_) (fun c27 => ?_)
        · have hf := o_in c27 hf
          obtain rfl := o_ret hf
          obtain rfl := lpK_l h17z
          exact K17_0 _ _ _ hP hD hS (lv_sub hl [0, 2] rfl)
        · have hf := o_ip c27 hf
          refine lv_aload_n hx hb dX0_read_30 rfl (lv_at hl 1 rfl) ?_
          refine lv_iload_n hx hb dX0_read_31 rfl (lv_at hl 3 rfl) ?_
          obtain ⟨r32, h32r, hf⟩ := o_bs hf
          refine k_goi (va_runS (As := [.ref (q 4), .int s17.1]) (rest := []) ⟨hx, hb, hml, hown, hts⟩ (zX0_beginsToken l D cy sa (WX q cy s17.2 ++ rest) H.size 4 (q 4) 120 (gR s17.2 1) s17.1 r32 rfl h32r) (va_cwS 2 hts (gB_S wB157 wB158 wB20 wB159) rfl rfl rfl (by decide +kernel) ⟨Nat.le_of_ble_eq_true rfl, Nat.le_of_ble_eq_true rfl⟩) ⟨kP.blind, k_pre hP hD hS hE hA⟩ rfl rfl hl.1 rfl (lv_room (Nat.le_of_ble_eq_true rfl)) dX0_read_32 ⟨Nat.zero_le _, Nat.zero_le _⟩) hD hS hA (fun H locs hP hD hS => ?_)
          refine lv_if_eq (tgt := 58) hx hb dX0_read_35 (by decide) (fun c35 => ?_) (fun c35 => ?_)
          · have hf := o_ip c35 hf
            refine lv_iinc (v := (s17.1 + 1)) (lv' := [(3, .int (s17.1 + 1)), (0, .ref (q 10)), (1, .ref (q 4)), (2, .int a2)]) hx hb dX0_read_58 hl (k := 3) rfl (by rfl) (by decide) rfl (fun ls hl => ?_)
            refine lv_goto (tgt := 17) hx hb dX0_read_61 (by decide) ?_
            obtain rfl := o_ret hf
            exact ih17 _ _ (lpK_r h17z) _ _ _ hP hD hS (lv_sub hl [1, 2, 3, 0] rfl) K17_0
          · have hf := o_in c35 hf
            refine lv_aload_n hx hb dX0_read_38 rfl (lv_at hl 0 rfl) ?_
            refine lv_aload_n hx hb dX0_read_39 rfl (lv_at hl 1 rfl) ?_
            refine lv_iload_n hx hb dX0_read_40 rfl (lv_at hl 3 rfl) ?_
            refine lv_aload_n hx hb dX0_read_41 rfl (lv_at hl 1 rfl) ?_
            refine lv_iload_n hx hb dX0_read_42 rfl (lv_at hl 3 rfl) ?_
            refine lv_iload_n hx hb dX0_read_43 rfl (lv_at hl 2 rfl) ?_
            obtain ⟨r44, h44r, hf⟩ := o_bs hf
            refine k_goi (va_runS (As := [.ref (q 4), .int s17.1, .int a2]) (rest := [.int s17.1, .ref (q 4), .ref (q 10)]) ⟨hx, hb, hml, hown, hts⟩ (zX0_tokenEnd l D cy sa (WX q cy s17.2 ++ rest) H.size 4 (q 4) 120 (gR s17.2 1) s17.1 a2 r44 rfl h44r) (va_cwS 3 hts (gB_S wB163 wB164 wB20 wB165) rfl rfl rfl (by decide +kernel) ⟨Nat.le_of_ble_eq_true rfl, Nat.le_of_ble_eq_true rfl⟩) ⟨kP.blind, k_pre hP hD hS hE hA⟩ rfl rfl hl.1 rfl (lv_room (Nat.le_of_ble_eq_true rfl)) dX0_read_44 ⟨Nat.zero_le _, Nat.zero_le _⟩) hD hS hA (fun H locs hP hD hS => ?_)
            obtain ⟨r47, h47r, hf⟩ := o_bs hf
            refine k_goi (va_runV (As := [.ref (q 4), .int s17.1, .int r44]) (rest := []) ⟨hx, hb, hml, hown, hts⟩ (zX0_takesToken l D cy sa q rest H.size s17.2 s17.1 r44 r47 h47r) (cwV 3 hts (gB_V wB166 wB167 wB168 wB20 wB169) rfl rfl rfl (by decide +kernel) ⟨Nat.le_of_ble_eq_true rfl, Nat.le_of_ble_eq_true rfl⟩) ⟨kP.blind, k_recv hE hP (ci := 0) (q0 := 10) rfl rfl, k_pre hP hD hS hE hA⟩ rfl rfl hl.1 rfl (lv_room (Nat.le_of_ble_eq_true rfl)) dX0_read_47 ⟨Nat.zero_le _, Nat.zero_le _⟩) hD hS hA (fun H locs hP hD hS => ?_)
            refine lv_if_ne (tgt := 58) hx hb dX0_read_50 (by decide) (fun c50 => ?_) (fun c50 => ?_)
            · have hf := o_in c50 hf
              refine lv_iinc (v := (s17.1 + 1)) (lv' := [(3, .int (s17.1 + 1)), (0, .ref (q 10)), (1, .ref (q 4)), (2, .int a2)]) hx hb dX0_read_58 hl (k := 3) rfl (by rfl) (by decide) rfl (fun ls hl => ?_)
              refine lv_goto (tgt := 17) hx hb dX0_read_61 (by decide) ?_
              obtain rfl := o_ret hf
              exact ih17 _ _ (lpK_r h17z) _ _ _ hP hD hS (lv_sub hl [1, 2, 3, 0] rfl) K17_0
            · have hf := o_ip c50 hf
              refine lv_aload_n hx hb dX0_read_53 rfl (lv_at hl 0 rfl) ?_
              refine lv_iload_n hx hb dX0_read_54 rfl (lv_at hl 3 rfl) ?_
              refine va_put (ci := 0) (v := .int s17.1) (ty := .int) (C := RX0) (T := TX0) (N := 9) hx hb hts inlX0 tyX0 tyX0_ok nmX0 hown hE.1 hP hD hS 10 rfl rfl 0 (by decide) (hts _ wB50) (fun _ h9 => h9) rfl (by decide +kernel) rfl rfl (Nat.le_of_ble_eq_true rfl) dX0_read_55 (fun H locs hP hD hS => ?_)
              have hP : va_P D vwCl (WX q cy (sI r47.2 5 s17.1) ++ rest) H := hP
              have hD : va_D A (WX q cy (sI r47.2 5 s17.1) ++ rest) := hD
              refine lv_iinc (v := (s17.1 + 1)) (lv' := [(3, .int (s17.1 + 1)), (0, .ref (q 10)), (1, .ref (q 4)), (2, .int a2)]) hx hb dX0_read_58 hl (k := 3) rfl (by rfl) (by decide) rfl (fun ls hl => ?_)
              refine lv_goto (tgt := 17) hx hb dX0_read_61 (by decide) ?_
              obtain rfl := o_ret hf
              exact ih17 _ _ (lpK_r h17z) _ _ _ hP hD hS (lv_sub hl [1, 2, 3, 0] rfl) K17_0
  obtain ⟨e17, h17q, hf⟩ := o_bs hf
  obtain ⟨n17v, h17q⟩ := lpF_ex h17q
  refine L17 n17v _ e17 h17q _ _ _ hP hD hS (lv_sub hl [1, 2, 3, 0] rfl) ?_
  intro H locs ls hP hD hS hl
  refine lv_aload_n hx hb dX0_read_64 rfl (lv_at hl 0 rfl) ?_
  refine va_get (ci := 0) (v := .int (gI e17 5)) (C := RX0) (T := TX0) (N := 9) hx hb hts inlX0 hown hE.1 hP 10 rfl rfl 0 (by decide) (hts _ wB50) (fun _ h9 => h9) rfl dX0_read_65 ?_
  refine lv_iconst (v := (-1)) hx hb dX0_read_68 (by decide) ?_
  refine lv_icmp_ne (tgt := 84) hx hb dX0_read_69 (by decide) (fun c69 => ?_) (fun c69 => ?_)
  · have hf := o_in c69 hf
    refine lv_iconst (v := 1) hx hb dX0_read_84 (by decide) ?_
    refine lv_istore_n (lv' := [(3, .int 1), (0, .ref (q 10)), (2, .int a2)]) hx hb dX0_read_85 rfl hl (by decide) rfl (fun ls hl => ?_)
    have L86 : ∀ (n86v : Nat) (s86 : Int32 × KS) (e86 : KS), lpO mX0_read_s86 n86v s86 = some e86 → ∀ (H : Heap) (locs : List Loc) (ls : Array Slot), va_P D vwCl (WX q cy s86.2 ++ rest) H → va_D A (WX q cy s86.2 ++ rest) → va_S A s.heap H locs → lv_has ls 4 [(0, .ref (q 10)), (3, .int s86.1)] → (∀ (H : Heap) (locs : List Loc) (ls : Array Slot), va_P D vwCl (WX q cy e86 ++ rest) H → va_D A (WX q cy e86 ++ rest) → va_S A s.heap H locs → lv_has ls 4 [] → W p l e rmX0_read s m ([.ref (q 10), .ref (q 4), .int a2] : List Value).toArray below meth c H locs 0 0 (MQ below (kQv D A (WX q cy res ++ rest)) ([.ref (q 10), .ref (q 4), .int a2] : List Value).toArray s 0 0 A) (F0 m 102 ls [])) → W p l e rmX0_read s m ([.ref (q 10), .ref (q 4), .int a2] : List Value).toArray below meth c H locs 0 0 (MQ below (kQv D A (WX q cy res ++ rest)) ([.ref (q 10), .ref (q 4), .int a2] : List Value).toArray s 0 0 A) (F0 m 86 ls []) := by
      intro n86v
      induction n86v with
      | zero => intro s86 e86 h; exact (lpO_z h).elim
      | succ n86v ih86 =>
        intro s86 e86 h86z H locs ls hP hD hS hl K86_0
        obtain ⟨x86, hf, h86z⟩ := lpO_s h86z
        unfold mX0_read_s86 at hf
        refine lv_iload_n hx hb dX0_read_86 rfl (lv_at hl 1 rfl) ?_
        refine lv_iconst (v := 3) hx hb dX0_read_87 (by decide) ?_
        refine lv_icmp_gt (tgt := 102) hx hb dX0_read_88 (by decide) (fun c88 => ?_) (fun c88 => ?_)
        · have hf := o_ip c88 hf
          obtain rfl := o_ret hf
          obtain rfl := lpK_l h86z
          exact K86_0 _ _ _ hP hD hS (lv_sub hl [] rfl)
        · have hf := o_in c88 hf
          refine lv_aload_n hx hb dX0_read_91 rfl (lv_at hl 0 rfl) ?_
          refine lv_iload_n hx hb dX0_read_92 rfl (lv_at hl 1 rfl) ?_
          obtain ⟨r93, h93r, hf⟩ := o_bs hf
          refine k_gov (va_runV (As := [.int s86.1]) (rest := []) ⟨hx, hb, hml, hown, hts⟩ (zX0_seep l D cy sa q rest H.size s86.2 s86.1 r93 h93r) (cwV 1 hts (gB_V wB234 wB235 wB236 wB20 wB237) rfl rfl rfl (by decide +kernel) ⟨Nat.le_of_ble_eq_true rfl, Nat.le_of_ble_eq_true rfl⟩) ⟨kP.blind, k_recv hE hP (ci := 0) (q0 := 10) rfl rfl, k_pre hP hD hS hE hA⟩ rfl rfl hl.1 rfl (lv_room (Nat.le_of_ble_eq_true rfl)) dX0_read_93 ⟨Nat.zero_le _, Nat.zero_le _⟩) hD hS hA (fun H locs hP hD hS => ?_)
          refine lv_iinc (v := (s86.1 + 1)) (lv' := [(3, .int (s86.1 + 1)), (0, .ref (q 10))]) hx hb dX0_read_96 hl (k := 1) rfl (by rfl) (by decide) rfl (fun ls hl => ?_)
          refine lv_goto (tgt := 86) hx hb dX0_read_99 (by decide) ?_
          obtain rfl := o_ret hf
          exact ih86 _ _ (lpK_r h86z) _ _ _ hP hD hS (lv_sub hl [1, 0] rfl) K86_0
    obtain ⟨e86, h86q, hf⟩ := o_bs hf
    obtain ⟨n86v, h86q⟩ := lpF_ex h86q
    refine L86 n86v _ e86 h86q _ _ _ hP hD hS (lv_sub hl [1, 0] rfl) ?_
    intro H locs ls hP hD hS hl
    obtain rfl := o_ret hf
    exact k_vret hx hb hr hP hD hS (Nat.zero_le _) (Nat.zero_le _) hlocks dX0_read_102
  · have hf := o_ip c69 hf
    refine lv_aload_n hx hb dX0_read_72 rfl (lv_at hl 0 rfl) ?_
    refine va_get (ci := 0) (v := .int (gI e17 7)) (C := RX0) (T := TX0) (N := 9) hx hb hts inlX0 hown hE.1 hP 10 rfl rfl 6 (by decide) (hts _ wB156) (fun _ h9 => h9) rfl dX0_read_73 ?_
    refine lv_if_eq (tgt := 84) hx hb dX0_read_76 (by decide) (fun c76 => ?_) (fun c76 => ?_)
    · have hf := o_ip c76 hf
      refine lv_iconst (v := 1) hx hb dX0_read_84 (by decide) ?_
      refine lv_istore_n (lv' := [(3, .int 1), (0, .ref (q 10)), (2, .int a2)]) hx hb dX0_read_85 rfl hl (by decide) rfl (fun ls hl => ?_)
      have L86 : ∀ (n86v : Nat) (s86 : Int32 × KS) (e86 : KS), lpO mX0_read_s86 n86v s86 = some e86 → ∀ (H : Heap) (locs : List Loc) (ls : Array Slot), va_P D vwCl (WX q cy s86.2 ++ rest) H → va_D A (WX q cy s86.2 ++ rest) → va_S A s.heap H locs → lv_has ls 4 [(0, .ref (q 10)), (3, .int s86.1)] → (∀ (H : Heap) (locs : List Loc) (ls : Array Slot), va_P D vwCl (WX q cy e86 ++ rest) H → va_D A (WX q cy e86 ++ rest) → va_S A s.heap H locs → lv_has ls 4 [] → W p l e rmX0_read s m ([.ref (q 10), .ref (q 4), .int a2] : List Value).toArray below meth c H locs 0 0 (MQ below (kQv D A (WX q cy res ++ rest)) ([.ref (q 10), .ref (q 4), .int a2] : List Value).toArray s 0 0 A) (F0 m 102 ls [])) → W p l e rmX0_read s m ([.ref (q 10), .ref (q 4), .int a2] : List Value).toArray below meth c H locs 0 0 (MQ below (kQv D A (WX q cy res ++ rest)) ([.ref (q 10), .ref (q 4), .int a2] : List Value).toArray s 0 0 A) (F0 m 86 ls []) := by
        intro n86v
        induction n86v with
        | zero => intro s86 e86 h; exact (lpO_z h).elim
        | succ n86v ih86 =>
          intro s86 e86 h86z H locs ls hP hD hS hl K86_0
          obtain ⟨x86, hf, h86z⟩ := lpO_s h86z
          unfold mX0_read_s86 at hf
          refine lv_iload_n hx hb dX0_read_86 rfl (lv_at hl 1 rfl) ?_
          refine lv_iconst (v := 3) hx hb dX0_read_87 (by decide) ?_
          refine lv_icmp_gt (tgt := 102) hx hb dX0_read_88 (by decide) (fun c88 => ?_) (fun c88 => ?_)
          · have hf := o_ip c88 hf
            obtain rfl := o_ret hf
            obtain rfl := lpK_l h86z
            exact K86_0 _ _ _ hP hD hS (lv_sub hl [] rfl)
          · have hf := o_in c88 hf
            refine lv_aload_n hx hb dX0_read_91 rfl (lv_at hl 0 rfl) ?_
            refine lv_iload_n hx hb dX0_read_92 rfl (lv_at hl 1 rfl) ?_
            obtain ⟨r93, h93r, hf⟩ := o_bs hf
            refine k_gov (va_runV (As := [.int s86.1]) (rest := []) ⟨hx, hb, hml, hown, hts⟩ (zX0_seep l D cy sa q rest H.size s86.2 s86.1 r93 h93r) (cwV 1 hts (gB_V wB234 wB235 wB236 wB20 wB237) rfl rfl rfl (by decide +kernel) ⟨Nat.le_of_ble_eq_true rfl, Nat.le_of_ble_eq_true rfl⟩) ⟨kP.blind, k_recv hE hP (ci := 0) (q0 := 10) rfl rfl, k_pre hP hD hS hE hA⟩ rfl rfl hl.1 rfl (lv_room (Nat.le_of_ble_eq_true rfl)) dX0_read_93 ⟨Nat.zero_le _, Nat.zero_le _⟩) hD hS hA (fun H locs hP hD hS => ?_)
            refine lv_iinc (v := (s86.1 + 1)) (lv' := [(3, .int (s86.1 + 1)), (0, .ref (q 10))]) hx hb dX0_read_96 hl (k := 1) rfl (by rfl) (by decide) rfl (fun ls hl => ?_)
            refine lv_goto (tgt := 86) hx hb dX0_read_99 (by decide) ?_
            obtain rfl := o_ret hf
            exact ih86 _ _ (lpK_r h86z) _ _ _ hP hD hS (lv_sub hl [1, 0] rfl) K86_0
      obtain ⟨e86, h86q, hf⟩ := o_bs hf
      obtain ⟨n86v, h86q⟩ := lpF_ex h86q
      refine L86 n86v _ e86 h86q _ _ _ hP hD hS (lv_sub hl [1, 0] rfl) ?_
      intro H locs ls hP hD hS hl
      obtain rfl := o_ret hf
      exact k_vret hx hb hr hP hD hS (Nat.zero_le _) (Nat.zero_le _) hlocks dX0_read_102
    · have hf := o_in c76 hf
      refine lv_aload_n hx hb dX0_read_79 rfl (lv_at hl 0 rfl) ?_
      refine lv_iload_n hx hb dX0_read_80 rfl (lv_at hl 1 rfl) ?_
      refine va_put (ci := 0) (v := .int a2) (ty := .int) (C := RX0) (T := TX0) (N := 9) hx hb hts inlX0 tyX0 tyX0_ok nmX0 hown hE.1 hP hD hS 10 rfl rfl 0 (by decide) (hts _ wB50) (fun _ h9 => h9) rfl (by decide +kernel) rfl rfl (Nat.le_of_ble_eq_true rfl) dX0_read_81 (fun H locs hP hD hS => ?_)
      have hP : va_P D vwCl (WX q cy (sI e17 5 a2) ++ rest) H := hP
      have hD : va_D A (WX q cy (sI e17 5 a2) ++ rest) := hD
      refine lv_iconst (v := 1) hx hb dX0_read_84 (by decide) ?_
      refine lv_istore_n (lv' := [(3, .int 1), (0, .ref (q 10)), (2, .int a2)]) hx hb dX0_read_85 rfl hl (by decide) rfl (fun ls hl => ?_)
      have L86 : ∀ (n86v : Nat) (s86 : Int32 × KS) (e86 : KS), lpO mX0_read_s86 n86v s86 = some e86 → ∀ (H : Heap) (locs : List Loc) (ls : Array Slot), va_P D vwCl (WX q cy s86.2 ++ rest) H → va_D A (WX q cy s86.2 ++ rest) → va_S A s.heap H locs → lv_has ls 4 [(0, .ref (q 10)), (3, .int s86.1)] → (∀ (H : Heap) (locs : List Loc) (ls : Array Slot), va_P D vwCl (WX q cy e86 ++ rest) H → va_D A (WX q cy e86 ++ rest) → va_S A s.heap H locs → lv_has ls 4 [] → W p l e rmX0_read s m ([.ref (q 10), .ref (q 4), .int a2] : List Value).toArray below meth c H locs 0 0 (MQ below (kQv D A (WX q cy res ++ rest)) ([.ref (q 10), .ref (q 4), .int a2] : List Value).toArray s 0 0 A) (F0 m 102 ls [])) → W p l e rmX0_read s m ([.ref (q 10), .ref (q 4), .int a2] : List Value).toArray below meth c H locs 0 0 (MQ below (kQv D A (WX q cy res ++ rest)) ([.ref (q 10), .ref (q 4), .int a2] : List Value).toArray s 0 0 A) (F0 m 86 ls []) := by
        intro n86v
        induction n86v with
        | zero => intro s86 e86 h; exact (lpO_z h).elim
        | succ n86v ih86 =>
          intro s86 e86 h86z H locs ls hP hD hS hl K86_0
          obtain ⟨x86, hf, h86z⟩ := lpO_s h86z
          unfold mX0_read_s86 at hf
          refine lv_iload_n hx hb dX0_read_86 rfl (lv_at hl 1 rfl) ?_
          refine lv_iconst (v := 3) hx hb dX0_read_87 (by decide) ?_
          refine lv_icmp_gt (tgt := 102) hx hb dX0_read_88 (by decide) (fun c88 => ?_) (fun c88 => ?_)
          · have hf := o_ip c88 hf
            obtain rfl := o_ret hf
            obtain rfl := lpK_l h86z
            exact K86_0 _ _ _ hP hD hS (lv_sub hl [] rfl)
          · have hf := o_in c88 hf
            refine lv_aload_n hx hb dX0_read_91 rfl (lv_at hl 0 rfl) ?_
            refine lv_iload_n hx hb dX0_read_92 rfl (lv_at hl 1 rfl) ?_
            obtain ⟨r93, h93r, hf⟩ := o_bs hf
            refine k_gov (va_runV (As := [.int s86.1]) (rest := []) ⟨hx, hb, hml, hown, hts⟩ (zX0_seep l D cy sa q rest H.size s86.2 s86.1 r93 h93r) (cwV 1 hts (gB_V wB234 wB235 wB236 wB20 wB237) rfl rfl rfl (by decide +kernel) ⟨Nat.le_of_ble_eq_true rfl, Nat.le_of_ble_eq_true rfl⟩) ⟨kP.blind, k_recv hE hP (ci := 0) (q0 := 10) rfl rfl, k_pre hP hD hS hE hA⟩ rfl rfl hl.1 rfl (lv_room (Nat.le_of_ble_eq_true rfl)) dX0_read_93 ⟨Nat.zero_le _, Nat.zero_le _⟩) hD hS hA (fun H locs hP hD hS => ?_)
            refine lv_iinc (v := (s86.1 + 1)) (lv' := [(3, .int (s86.1 + 1)), (0, .ref (q 10))]) hx hb dX0_read_96 hl (k := 1) rfl (by rfl) (by decide) rfl (fun ls hl => ?_)
            refine lv_goto (tgt := 86) hx hb dX0_read_99 (by decide) ?_
            obtain rfl := o_ret hf
            exact ih86 _ _ (lpK_r h86z) _ _ _ hP hD hS (lv_sub hl [1, 0] rfl) K86_0
      obtain ⟨e86, h86q, hf⟩ := o_bs hf
      obtain ⟨n86v, h86q⟩ := lpF_ex h86q
      refine L86 n86v _ e86 h86q _ _ _ hP hD hS (lv_sub hl [1, 0] rfl) ?_
      intro H locs ls hP hD hS hl
      obtain rfl := o_ret hf
      exact k_vret hx hb hr hP hD hS (Nat.zero_le _) (Nat.zero_le _) hlocks dX0_read_102
noncomputable def mX1_commonOf_s9  (s9 : Int64 × Int64 × Int32) : Option ((Int64) ⊕ (Int64 × Int64 × Int32)) :=
  if 100 ≤ s9.2.2 then
  (some (.inl s9.1))
  else
  (if (lg_cmp s9.2.1 0) = 0 then
  (some (.inl s9.1))
  else
  (gd (¬ s9.2.1 = (0 : Int64)) (some (.inr (s9.2.1, (s9.1 - s9.1 / s9.2.1 * s9.2.1), (s9.2.2 + 1))))))
noncomputable def mX1_commonOf (a0 : Int64) (a2 : Int64) : Option (Int64) :=
  (lpF mX1_commonOf_s9 (a0, a2, 0)).bind fun e9 =>
  some e9
abbrev rmX1_commonOf : Room := { frames := 0, cells := 0, slots := 0, locals := 0 }
set_option maxRecDepth 100000 in
set_option maxHeartbeats 4000000 in
theorem zX1_commonOf (l : Launch) (D : va_G) (cy : Nat → ClassId) (sa : Nat → Nat) (ws : va_W) (sz : Nat) (a0 : Int64) (a2 : Int64) (res : Int64) (hf : mX1_commonOf a0 a2 = some res) : kMl l yX1_commonOf (wsK yX1_commonOf cX1_commonOf 11 (some .long)) rmX1_commonOf D cy sa (ws) sz [.long a0, .long a2] res (ws) 0 0 := by
  refine kM_of (Qc := fun A => kQl D A res (ws)) (cc := cX1_commonOf) (maxL := 11) (ret := (some .long)) (by decide) (Nat.le_of_ble_eq_true rfl) ?_
  intro p e s m below meth c A hx hb hml hr hts hown hlocks hin hA hP hD hS hE hsz ls hl
  have hown : s.vm.findClass RX1 = some m.cls := hown
  obtain ⟨H, hH0⟩ : ∃ H, H = s.heap := ⟨_, rfl⟩
  obtain ⟨locs, hlocs0⟩ : ∃ locs : List Loc, locs = [] := ⟨_, rfl⟩
  have hP : va_P D vwCl (ws) H := by rw [hH0]; exact hP
  have hS : va_S A s.heap H locs := by rw [hH0, hlocs0]; exact hS
  have hl : lv_has ls 11 [(0, .long a0), (2, .long a2)] := hl
  suffices hgoal : W p l e rmX1_commonOf s m ([.long a0, .long a2] : List Value).toArray below meth c H locs 0 0 (MQ below (kQl D A res (ws)) ([.long a0, .long a2] : List Value).toArray s 0 0 A) (F0 m 0 ls []) by rw [hH0, hlocs0] at hgoal; exact hgoal
  clear hH0 hlocs0
  unfold mX1_commonOf at hf
  refine lv_lload_n hx hb dX1_commonOf_0 rfl (lv_at hl 0 rfl) ?_
  refine lv_lstore (lv' := [(4, .long a0), (0, .long a0), (2, .long a2)]) hx hb dX1_commonOf_1 hl (by decide) rfl (fun ls hl => ?_)
  refine lv_lload_n hx hb dX1_commonOf_3 rfl (lv_at hl 2 rfl) ?_
  refine lv_lstore (lv' := [(6, .long a2), (4, .long a0), (0, .long a0), (2, .long a2)]) hx hb dX1_commonOf_4 hl (by decide) rfl (fun ls hl => ?_)
  refine lv_iconst (v := 0) hx hb dX1_commonOf_6 (by decide) ?_
  refine lv_istore (lv' := [(8, .int 0), (6, .long a2), (4, .long a0), (0, .long a0), (2, .long a2)]) hx hb dX1_commonOf_7 hl (by decide) rfl (fun ls hl => ?_)
  have L9 : ∀ (n9v : Nat) (s9 : Int64 × Int64 × Int32) (e9 : Int64), lpO mX1_commonOf_s9 n9v s9 = some e9 → ∀ (H : Heap) (locs : List Loc) (ls : Array Slot), va_P D vwCl (ws) H → va_D A (ws) → va_S A s.heap H locs → lv_has ls 11 [(4, .long s9.1), (6, .long s9.2.1), (8, .int s9.2.2)] → (∀ (H : Heap) (locs : List Loc) (ls : Array Slot), va_P D vwCl (ws) H → va_D A (ws) → va_S A s.heap H locs → lv_has ls 11 [(4, .long e9)] → W p l e rmX1_commonOf s m ([.long a0, .long a2] : List Value).toArray below meth c H locs 0 0 (MQ below (kQl D A res (ws)) ([.long a0, .long a2] : List Value).toArray s 0 0 A) (F0 m 44 ls [])) → W p l e rmX1_commonOf s m ([.long a0, .long a2] : List Value).toArray below meth c H locs 0 0 (MQ below (kQl D A res (ws)) ([.long a0, .long a2] : List Value).toArray s 0 0 A) (F0 m 9 ls []) := by
    intro n9v
    induction n9v with
    | zero => intro s9 e9 h; exact (lpO_z h).elim
    | succ n9v ih9 =>
      intro s9 e9 h9z H locs ls hP hD hS hl K9_0
      obtain ⟨x9, hf, h9z⟩ := lpO_s h9z
      unfold mX1_commonOf_s9 at hf
      refine lv_iload hx hb dX1_commonOf_9 (lv_at hl 2 rfl) ?_
      refine lv_bipush (v := 100) hx hb dX1_commonOf_11 (by decide) ?_
      refine lv_icmp_ge (tgt := 44) hx hb dX1_commonOf_13 (by decide) (fun c13 => ?_) (fun c13 => ?_)
      · have hf := o_ip c13 hf
        obtain rfl := o_ret hf
        obtain rfl := lpK_l h9z
        exact K9_0 _ _ _ hP hD hS (lv_sub hl [0] rfl)
      · have hf := o_in c13 hf
        refine lv_lload hx hb dX1_commonOf_16 (lv_at hl 1 rfl) ?_
        refine lv_lconst (v := 0) hx hb dX1_commonOf_18 (by decide) ?_
        refine W.lcmp hx hb dX1_commonOf_19 ?_
        refine lv_if_eq (tgt := 44) hx hb dX1_commonOf_20 (by decide) (fun c20 => ?_) (fun c20 => ?_)
        · have hf := o_ip c20 hf
          obtain rfl := o_ret hf
          obtain rfl := lpK_l h9z
          exact K9_0 _ _ _ hP hD hS (lv_sub hl [0] rfl)
        · have hf := o_in c20 hf
          refine lv_lload hx hb dX1_commonOf_23 (lv_at hl 0 rfl) ?_
          refine lv_lload hx hb dX1_commonOf_25 (lv_at hl 1 rfl) ?_
          obtain ⟨hg27, hf⟩ := gd_s hf
          refine lv_lrem hx hb dX1_commonOf_27 hg27 ?_
          refine lv_lstore (lv' := [(9, .long (s9.1 - s9.1 / s9.2.1 * s9.2.1)), (4, .long s9.1), (6, .long s9.2.1), (8, .int s9.2.2)]) hx hb dX1_commonOf_28 hl (by decide) rfl (fun ls hl => ?_)
          refine lv_lload hx hb dX1_commonOf_30 (lv_at hl 2 rfl) ?_
          refine lv_lstore (lv' := [(4, .long s9.2.1), (9, .long (s9.1 - s9.1 / s9.2.1 * s9.2.1)), (6, .long s9.2.1), (8, .int s9.2.2)]) hx hb dX1_commonOf_32 hl (by decide) rfl (fun ls hl => ?_)
          refine lv_lload hx hb dX1_commonOf_34 (lv_at hl 1 rfl) ?_
          refine lv_lstore (lv' := [(6, .long (s9.1 - s9.1 / s9.2.1 * s9.2.1)), (4, .long s9.2.1), (9, .long (s9.1 - s9.1 / s9.2.1 * s9.2.1)), (8, .int s9.2.2)]) hx hb dX1_commonOf_36 hl (by decide) rfl (fun ls hl => ?_)
          refine lv_iinc (v := (s9.2.2 + 1)) (lv' := [(8, .int (s9.2.2 + 1)), (6, .long (s9.1 - s9.1 / s9.2.1 * s9.2.1)), (4, .long s9.2.1), (9, .long (s9.1 - s9.1 / s9.2.1 * s9.2.1))]) hx hb dX1_commonOf_38 hl (k := 3) rfl (by rfl) (by decide) rfl (fun ls hl => ?_)
          refine lv_goto (tgt := 9) hx hb dX1_commonOf_41 (by decide) ?_
          obtain rfl := o_ret hf
          exact ih9 _ _ (lpK_r h9z) _ _ _ hP hD hS (lv_sub hl [2, 1, 0] rfl) K9_0
  obtain ⟨e9, h9q, hf⟩ := o_bs hf
  obtain ⟨n9v, h9q⟩ := lpF_ex h9q
  refine L9 n9v _ e9 h9q _ _ _ hP hD hS (lv_sub hl [2, 1, 0] rfl) ?_
  intro H locs ls hP hD hS hl
  refine lv_lload hx hb dX1_commonOf_44 (lv_at hl 0 rfl) ?_
  obtain rfl := o_ret hf
  exact k_lret hx hb hr hP hD hS (Nat.zero_le _) (Nat.zero_le _) hlocks dX1_commonOf_46
noncomputable def mX5_at_ (n0 : Nat) (f0 : Nat → Int64) (a1 : Int32) : Option (Int64) :=
  if a1 < 0 then
  (some 0)
  else
  (if (Int32.ofNat n0) ≤ a1 then
  (some 0)
  else
  (gd (inb a1 n0) (some (f0 (a1.toNatClampNeg)))))
abbrev rmX5_at_ : Room := { frames := 0, cells := 0, slots := 0, locals := 0 }
set_option maxRecDepth 100000 in
set_option maxHeartbeats 4000000 in
theorem zX5_at_ (l : Launch) (D : va_G) (cy : Nat → ClassId) (sa : Nat → Nat) (ws : va_W) (sz : Nat) (k0 d0 n0 : Nat) (f0 : Nat → Int64) (a1 : Int32) (res : Int64) (ha0 : ws[k0]? = some (kIJ d0 (cy 1) n0 f0)) (hf : mX5_at_ n0 f0 a1 = some res) : kMl l yX5_at_ (wsK yX5_at_ cX5_at_ 2 (some .long)) rmX5_at_ D cy sa (ws) sz [.ref d0, .int a1] res (ws) 0 0 := by
  refine kM_of (Qc := fun A => kQl D A res (ws)) (cc := cX5_at_) (maxL := 2) (ret := (some .long)) (by decide) (Nat.le_of_ble_eq_true rfl) ?_
  intro p e s m below meth c A hx hb hml hr hts hown hlocks hin hA hP hD hS hE hsz ls hl
  have hown : s.vm.findClass RX5 = some m.cls := hown
  obtain ⟨H, hH0⟩ : ∃ H, H = s.heap := ⟨_, rfl⟩
  obtain ⟨locs, hlocs0⟩ : ∃ locs : List Loc, locs = [] := ⟨_, rfl⟩
  have hP : va_P D vwCl (ws) H := by rw [hH0]; exact hP
  have hS : va_S A s.heap H locs := by rw [hH0, hlocs0]; exact hS
  have hl : lv_has ls 2 [(0, .ref d0), (1, .int a1)] := hl
  suffices hgoal : W p l e rmX5_at_ s m ([.ref d0, .int a1] : List Value).toArray below meth c H locs 0 0 (MQ below (kQl D A res (ws)) ([.ref d0, .int a1] : List Value).toArray s 0 0 A) (F0 m 0 ls []) by rw [hH0, hlocs0] at hgoal; exact hgoal
  clear hH0 hlocs0
  unfold mX5_at_ at hf
  refine lv_aload_n hx hb dX5_at__0 rfl (lv_at hl 0 rfl) ?_
  refine lv_ifnull hx hb dX5_at__1 ?_
  refine lv_iload_n hx hb dX5_at__4 rfl (lv_at hl 1 rfl) ?_
  refine lv_if_lt (tgt := 20) hx hb dX5_at__5 (by decide) (fun c5 => ?_) (fun c5 => ?_)
  · have hf := o_ip c5 hf
    refine lv_lconst (v := 0) hx hb dX5_at__20 (by decide) ?_
    obtain rfl := o_ret hf
    exact k_lret hx hb hr hP hD hS (Nat.zero_le _) (Nat.zero_le _) hlocks dX5_at__21
  · have hf := o_in c5 hf
    refine lv_iload_n hx hb dX5_at__8 rfl (lv_at hl 1 rfl) ?_
    refine lv_aload_n hx hb dX5_at__9 rfl (lv_at hl 0 rfl) ?_
    refine va_alen (v := (Int32.ofNat n0)) hx hb hE.1 hP k0 1 ha0 rfl rfl dX5_at__10 ?_
    refine lv_icmp_ge (tgt := 20) hx hb dX5_at__11 (by decide) (fun c11 => ?_) (fun c11 => ?_)
    · have hf := o_ip c11 hf
      refine lv_lconst (v := 0) hx hb dX5_at__20 (by decide) ?_
      obtain rfl := o_ret hf
      exact k_lret hx hb hr hP hD hS (Nat.zero_le _) (Nat.zero_le _) hlocks dX5_at__21
    · have hf := o_in c11 hf
      refine lv_aload_n hx hb dX5_at__14 rfl (lv_at hl 0 rfl) ?_
      refine lv_iload_n hx hb dX5_at__15 rfl (lv_at hl 1 rfl) ?_
      obtain ⟨hg16, hf⟩ := gd_s hf
      refine va_lald (f := f0) hx hb hE.1 hP k0 1 ha0 rfl hg16 dX5_at__16 ?_
      refine lv_goto (tgt := 21) hx hb dX5_at__17 (by decide) ?_
      obtain rfl := o_ret hf
      exact k_lret hx hb hr hP hD hS (Nat.zero_le _) (Nat.zero_le _) hlocks dX5_at__21
noncomputable def mX5_set_ (n0 : Nat) (f0 : Nat → Int64) (a1 : Int32) (a2 : Int64) : Option (((Nat → Int64))) :=
  if a1 < 0 then
  (some f0)
  else
  (if (Int32.ofNat n0) ≤ a1 then
  (some f0)
  else
  (gd (inb a1 n0) (some (vp_updL f0 (a1.toNatClampNeg) a2))))
abbrev rmX5_set_ : Room := { frames := 0, cells := 0, slots := 0, locals := 0 }
set_option maxRecDepth 100000 in
set_option maxHeartbeats 4000000 in
theorem zX5_set_ (l : Launch) (D : va_G) (cy : Nat → ClassId) (sa : Nat → Nat) (ws : va_W) (sz : Nat) (k0 d0 n0 : Nat) (f0 : Nat → Int64) (a1 : Int32) (a2 : Int64) (res : ((Nat → Int64))) (ha0 : ws[k0]? = some (kIJ d0 (cy 1) n0 f0)) (hf : mX5_set_ n0 f0 a1 a2 = some res) : kMv l yX5_set_ (wsK yX5_set_ cX5_set_ 4 none) rmX5_set_ D cy sa (ws) sz [.ref d0, .int a1, .long a2] ((ws.set k0 (kIJ d0 (cy 1) n0 res))) 0 0 := by
  refine kM_of (Qc := fun A => kQv D A ((ws.set k0 (kIJ d0 (cy 1) n0 res)))) (cc := cX5_set_) (maxL := 4) (ret := none) (by decide) (Nat.le_of_ble_eq_true rfl) ?_
  intro p e s m below meth c A hx hb hml hr hts hown hlocks hin hA hP hD hS hE hsz ls hl
  have hown : s.vm.findClass RX5 = some m.cls := hown
  obtain ⟨H, hH0⟩ : ∃ H, H = s.heap := ⟨_, rfl⟩
  obtain ⟨locs, hlocs0⟩ : ∃ locs : List Loc, locs = [] := ⟨_, rfl⟩
  have hP : va_P D vwCl (ws) H := by rw [hH0]; exact hP
  have hS : va_S A s.heap H locs := by rw [hH0, hlocs0]; exact hS
  have hl : lv_has ls 4 [(0, .ref d0), (1, .int a1), (2, .long a2)] := hl
  suffices hgoal : W p l e rmX5_set_ s m ([.ref d0, .int a1, .long a2] : List Value).toArray below meth c H locs 0 0 (MQ below (kQv D A ((ws.set k0 (kIJ d0 (cy 1) n0 res)))) ([.ref d0, .int a1, .long a2] : List Value).toArray s 0 0 A) (F0 m 0 ls []) by rw [hH0, hlocs0] at hgoal; exact hgoal
  clear hH0 hlocs0
  unfold mX5_set_ at hf
  refine lv_aload_n hx hb dX5_set__0 rfl (lv_at hl 0 rfl) ?_
  refine lv_ifnull hx hb dX5_set__1 ?_
  refine lv_iload_n hx hb dX5_set__4 rfl (lv_at hl 1 rfl) ?_
  refine lv_if_lt (tgt := 18) hx hb dX5_set__5 (by decide) (fun c5 => ?_) (fun c5 => ?_)
  · have hf := o_ip c5 hf
    have hP : va_P D vwCl ((ws.set k0 (kIJ d0 (cy 1) n0 f0))) H := by rw [k_setself ha0]; exact hP
    have hD : va_D A ((ws.set k0 (kIJ d0 (cy 1) n0 f0))) := by rw [k_setself ha0]; exact hD
    obtain rfl := o_ret hf
    exact k_vret hx hb hr hP hD hS (Nat.zero_le _) (Nat.zero_le _) hlocks dX5_set__18
  · have hf := o_in c5 hf
    refine lv_iload_n hx hb dX5_set__8 rfl (lv_at hl 1 rfl) ?_
    refine lv_aload_n hx hb dX5_set__9 rfl (lv_at hl 0 rfl) ?_
    refine va_alen (v := (Int32.ofNat n0)) hx hb hE.1 hP k0 1 ha0 rfl rfl dX5_set__10 ?_
    refine lv_icmp_ge (tgt := 18) hx hb dX5_set__11 (by decide) (fun c11 => ?_) (fun c11 => ?_)
    · have hf := o_ip c11 hf
      have hP : va_P D vwCl ((ws.set k0 (kIJ d0 (cy 1) n0 f0))) H := by rw [k_setself ha0]; exact hP
      have hD : va_D A ((ws.set k0 (kIJ d0 (cy 1) n0 f0))) := by rw [k_setself ha0]; exact hD
      obtain rfl := o_ret hf
      exact k_vret hx hb hr hP hD hS (Nat.zero_le _) (Nat.zero_le _) hlocks dX5_set__18
    · have hf := o_in c11 hf
      refine lv_aload_n hx hb dX5_set__14 rfl (lv_at hl 0 rfl) ?_
      refine lv_iload_n hx hb dX5_set__15 rfl (lv_at hl 1 rfl) ?_
      refine lv_lload_n hx hb dX5_set__16 rfl (lv_at hl 2 rfl) ?_
      obtain ⟨hg17, hf⟩ := gd_s hf
      refine va_last (f := f0) hx hb hE.1 hP hD hS k0 1 ha0 rfl hg17 dX5_set__17 (fun H locs hP hD hS => ?_)
      have hP : va_P D vwCl ((ws.set k0 (kIJ d0 (cy 1) n0 (vp_updL f0 (a1.toNatClampNeg) a2)))) H := hP
      have hD : va_D A ((ws.set k0 (kIJ d0 (cy 1) n0 (vp_updL f0 (a1.toNatClampNeg) a2)))) := hD
      obtain rfl := o_ret hf
      exact k_vret hx hb hr hP hD hS (Nat.zero_le _) (Nat.zero_le _) hlocks dX5_set__18
noncomputable def mX1_divide_s8 (n0 : Nat) (c1 : Int32) (s8 : Int64 × Int32 × ((Nat → Int64))) : Option ((((Nat → Int64))) ⊕ (Int64 × Int32 × ((Nat → Int64)))) :=
  if s8.2.1 < 0 then
  (some (.inl s8.2.2))
  else
  (if c1 ≤ 0 then
  (some (.inl s8.2.2))
  else
  ((mX5_at_ n0 s8.2.2 s8.2.1).bind fun r24 =>
  gd (¬ (c1.toInt64) = (0 : Int64)) ((mX5_set_ n0 s8.2.2 s8.2.1 (((s8.1 <<< ((30 : Int32).toInt64 &&& 63)) + r24) / (c1.toInt64))).bind fun r38 =>
  gd (¬ (c1.toInt64) = (0 : Int64)) (some (.inr ((((s8.1 <<< ((30 : Int32).toInt64 &&& 63)) + r24) - ((s8.1 <<< ((30 : Int32).toInt64 &&& 63)) + r24) / (c1.toInt64) * (c1.toInt64)), (s8.2.1 + (-1)), r38))))))
noncomputable def mX1_divide (n0 : Nat) (f0 : Nat → Int64) (a1 : Int32) : Option (((Nat → Int64))) :=
  (lpF (mX1_divide_s8 n0 a1) (0, ((Int32.ofNat n0) - 1), f0)).bind fun e8 =>
  some e8
abbrev rmX1_divide : Room := { frames := 1, cells := 0, slots := 0, locals := 23 }
set_option maxRecDepth 100000 in
set_option maxHeartbeats 4000000 in
theorem zX1_divide (l : Launch) (D : va_G) (cy : Nat → ClassId) (sa : Nat → Nat) (ws : va_W) (sz : Nat) (k0 d0 n0 : Nat) (f0 : Nat → Int64) (a1 : Int32) (res : ((Nat → Int64))) (ha0 : ws[k0]? = some (kIJ d0 (cy 1) n0 f0)) (hf : mX1_divide n0 f0 a1 = some res) : kMv l yX1_divide (wsK yX1_divide cX1_divide 7 none) rmX1_divide D cy sa (ws) sz [.ref d0, .int a1] ((ws.set k0 (kIJ d0 (cy 1) n0 res))) 0 0 := by
  refine kM_of (Qc := fun A => kQv D A ((ws.set k0 (kIJ d0 (cy 1) n0 res)))) (cc := cX1_divide) (maxL := 7) (ret := none) (by decide) (Nat.le_of_ble_eq_true rfl) ?_
  intro p e s m below meth c A hx hb hml hr hts hown hlocks hin hA hP hD hS hE hsz ls hl
  have hown : s.vm.findClass RX1 = some m.cls := hown
  obtain ⟨H, hH0⟩ : ∃ H, H = s.heap := ⟨_, rfl⟩
  obtain ⟨locs, hlocs0⟩ : ∃ locs : List Loc, locs = [] := ⟨_, rfl⟩
  have hP : va_P D vwCl (ws) H := by rw [hH0]; exact hP
  have hS : va_S A s.heap H locs := by rw [hH0, hlocs0]; exact hS
  have hl : lv_has ls 7 [(0, .ref d0), (1, .int a1)] := hl
  suffices hgoal : W p l e rmX1_divide s m ([.ref d0, .int a1] : List Value).toArray below meth c H locs 0 0 (MQ below (kQv D A ((ws.set k0 (kIJ d0 (cy 1) n0 res)))) ([.ref d0, .int a1] : List Value).toArray s 0 0 A) (F0 m 0 ls []) by rw [hH0, hlocs0] at hgoal; exact hgoal
  clear hH0 hlocs0
  unfold mX1_divide at hf
  refine lv_lconst (v := 0) hx hb dX1_divide_0 (by decide) ?_
  refine lv_lstore_n (lv' := [(2, .long 0), (0, .ref d0), (1, .int a1)]) hx hb dX1_divide_1 rfl hl (by decide) rfl (fun ls hl => ?_)
  refine lv_aload_n hx hb dX1_divide_2 rfl (lv_at hl 1 rfl) ?_
  refine va_alen (v := (Int32.ofNat n0)) hx hb hE.1 hP k0 1 ha0 rfl rfl dX1_divide_3 ?_
  refine lv_iconst (v := 1) hx hb dX1_divide_4 (by decide) ?_
  refine lv_isub hx hb dX1_divide_5 ?_
  refine lv_istore (lv' := [(4, .int ((Int32.ofNat n0) - 1)), (2, .long 0), (0, .ref d0), (1, .int a1)]) hx hb dX1_divide_6 hl (by decide) rfl (fun ls hl => ?_)
  have hP : va_P D vwCl ((ws.set k0 (kIJ d0 (cy 1) n0 f0))) H := by rw [k_setself ha0]; exact hP
  have hD : va_D A ((ws.set k0 (kIJ d0 (cy 1) n0 f0))) := by rw [k_setself ha0]; exact hD
  have L8 : ∀ (n8v : Nat) (s8 : Int64 × Int32 × ((Nat → Int64))) (e8 : ((Nat → Int64))), lpO (mX1_divide_s8 n0 a1) n8v s8 = some e8 → ∀ (H : Heap) (locs : List Loc) (ls : Array Slot), va_P D vwCl ((ws.set k0 (kIJ d0 (cy 1) n0 s8.2.2))) H → va_D A ((ws.set k0 (kIJ d0 (cy 1) n0 s8.2.2))) → va_S A s.heap H locs → lv_has ls 7 [(0, .ref d0), (1, .int a1), (2, .long s8.1), (4, .int s8.2.1)] → (∀ (H : Heap) (locs : List Loc) (ls : Array Slot), va_P D vwCl ((ws.set k0 (kIJ d0 (cy 1) n0 e8))) H → va_D A ((ws.set k0 (kIJ d0 (cy 1) n0 e8))) → va_S A s.heap H locs → lv_has ls 7 [] → W p l e rmX1_divide s m ([.ref d0, .int a1] : List Value).toArray below meth c H locs 0 0 (MQ below (kQv D A ((ws.set k0 (kIJ d0 (cy 1) n0 res)))) ([.ref d0, .int a1] : List Value).toArray s 0 0 A) (F0 m 53 ls [])) → W p l e rmX1_divide s m ([.ref d0, .int a1] : List Value).toArray below meth c H locs 0 0 (MQ below (kQv D A ((ws.set k0 (kIJ d0 (cy 1) n0 res)))) ([.ref d0, .int a1] : List Value).toArray s 0 0 A) (F0 m 8 ls []) := by
    intro n8v
    induction n8v with
    | zero => intro s8 e8 h; exact (lpO_z h).elim
    | succ n8v ih8 =>
      intro s8 e8 h8z H locs ls hP hD hS hl K8_0
      obtain ⟨x8, hf, h8z⟩ := lpO_s h8z
      unfold mX1_divide_s8 at hf
      refine lv_iload hx hb dX1_divide_8 (lv_at hl 3 rfl) ?_
      refine lv_if_lt (tgt := 53) hx hb dX1_divide_10 (by decide) (fun c10 => ?_) (fun c10 => ?_)
      · have hf := o_ip c10 hf
        obtain rfl := o_ret hf
        obtain rfl := lpK_l h8z
        exact K8_0 _ _ _ hP hD hS (lv_sub hl [] rfl)
      · have hf := o_in c10 hf
        refine lv_iload_n hx hb dX1_divide_13 rfl (lv_at hl 1 rfl) ?_
        refine lv_if_le (tgt := 53) hx hb dX1_divide_14 (by decide) (fun c14 => ?_) (fun c14 => ?_)
        · have hf := o_ip c14 hf
          obtain rfl := o_ret hf
          obtain rfl := lpK_l h8z
          exact K8_0 _ _ _ hP hD hS (lv_sub hl [] rfl)
        · have hf := o_in c14 hf
          refine lv_lload_n hx hb dX1_divide_17 rfl (lv_at hl 2 rfl) ?_
          refine lv_bipush (v := 30) hx hb dX1_divide_18 (by decide) ?_
          refine lv_lshl (v := (s8.1 <<< ((30 : Int32).toInt64 &&& 63))) hx hb dX1_divide_20 rfl ?_
          refine lv_aload_n hx hb dX1_divide_21 rfl (lv_at hl 0 rfl) ?_
          refine lv_iload hx hb dX1_divide_22 (lv_at hl 3 rfl) ?_
          obtain ⟨r24, h24r, hf⟩ := o_bs hf
          refine k_gol (va_runSN (As := [.ref d0, .int s8.2.1]) (rest := [.long (s8.1 <<< ((30 : Int32).toInt64 &&& 63))]) ⟨hx, hb, hml, hown, hts⟩ (zX5_at_ l D cy sa ((ws.set k0 (kIJ d0 (cy 1) n0 s8.2.2))) H.size k0 d0 n0 s8.2.2 s8.2.1 r24 (k_gset ha0) h24r) ⟨va_cnB 2 hts (gB_K wB414) rfl rfl rfl (hE.2.1.1 _ (List.mem_of_getElem? (i := 6) rfl)) (hts _ wB2) (by decide +kernel) ⟨Nat.le_of_ble_eq_true rfl, Nat.le_of_ble_eq_true rfl⟩, hts _ wB413, trivial⟩ ⟨kP.blind, k_pre hP hD hS hE hA⟩ rfl rfl hl.1 rfl (lv_room (Nat.le_of_ble_eq_true rfl)) dX1_divide_24 ⟨Nat.zero_le _, Nat.zero_le _⟩) hD hS hA (fun H locs hP hD hS => ?_)
          refine lv_ladd hx hb dX1_divide_27 ?_
          refine lv_lstore (lv' := [(5, .long ((s8.1 <<< ((30 : Int32).toInt64 &&& 63)) + r24)), (0, .ref d0), (1, .int a1), (2, .long s8.1), (4, .int s8.2.1)]) hx hb dX1_divide_28 hl (by decide) rfl (fun ls hl => ?_)
          refine lv_aload_n hx hb dX1_divide_30 rfl (lv_at hl 1 rfl) ?_
          refine lv_iload hx hb dX1_divide_31 (lv_at hl 4 rfl) ?_
          refine lv_lload hx hb dX1_divide_33 (lv_at hl 0 rfl) ?_
          refine lv_iload_n hx hb dX1_divide_35 rfl (lv_at hl 2 rfl) ?_
          refine lv_i2l (v := (a1.toInt64)) hx hb dX1_divide_36 rfl ?_
          obtain ⟨hg37, hf⟩ := gd_s hf
          refine lv_ldiv hx hb dX1_divide_37 hg37 ?_
          obtain ⟨r38, h38r, hf⟩ := o_bs hf
          refine k_gov (va_runSN (As := [.ref d0, .int s8.2.1, .long (((s8.1 <<< ((30 : Int32).toInt64 &&& 63)) + r24) / (a1.toInt64))]) (rest := []) ⟨hx, hb, hml, hown, hts⟩ (zX5_set_ l D cy sa ((ws.set k0 (kIJ d0 (cy 1) n0 s8.2.2))) H.size k0 d0 n0 s8.2.2 s8.2.1 (((s8.1 <<< ((30 : Int32).toInt64 &&& 63)) + r24) / (a1.toInt64)) r38 (k_gset ha0) h38r) ⟨va_cnB 3 hts (gB_K wB383) rfl rfl rfl (hE.2.1.1 _ (List.mem_of_getElem? (i := 7) rfl)) (hts _ wB2) (by decide +kernel) ⟨Nat.le_of_ble_eq_true rfl, Nat.le_of_ble_eq_true rfl⟩, hts _ wB382, trivial⟩ ⟨kP.blind, k_pre hP hD hS hE hA⟩ rfl rfl hl.1 rfl (lv_room (Nat.le_of_ble_eq_true rfl)) dX1_divide_38 ⟨Nat.zero_le _, Nat.zero_le _⟩) hD hS hA (fun H locs hP hD hS => ?_)
          have hP : va_P D vwCl ((ws.set k0 (kIJ d0 (cy 1) n0 r38))) H := by rw [List.set_set] at hP; exact hP
          have hD : va_D A ((ws.set k0 (kIJ d0 (cy 1) n0 r38))) := by rw [List.set_set] at hD; exact hD
          refine lv_lload hx hb dX1_divide_41 (lv_at hl 0 rfl) ?_
          refine lv_iload_n hx hb dX1_divide_43 rfl (lv_at hl 2 rfl) ?_
          refine lv_i2l (v := (a1.toInt64)) hx hb dX1_divide_44 rfl ?_
          obtain ⟨hg45, hf⟩ := gd_s hf
          refine lv_lrem hx hb dX1_divide_45 hg45 ?_
          refine lv_lstore_n (lv' := [(2, .long (((s8.1 <<< ((30 : Int32).toInt64 &&& 63)) + r24) - ((s8.1 <<< ((30 : Int32).toInt64 &&& 63)) + r24) / (a1.toInt64) * (a1.toInt64))), (5, .long ((s8.1 <<< ((30 : Int32).toInt64 &&& 63)) + r24)), (0, .ref d0), (1, .int a1), (4, .int s8.2.1)]) hx hb dX1_divide_46 rfl hl (by decide) rfl (fun ls hl => ?_)
          refine lv_iinc (v := (s8.2.1 + (-1))) (lv' := [(4, .int (s8.2.1 + (-1))), (2, .long (((s8.1 <<< ((30 : Int32).toInt64 &&& 63)) + r24) - ((s8.1 <<< ((30 : Int32).toInt64 &&& 63)) + r24) / (a1.toInt64) * (a1.toInt64))), (5, .long ((s8.1 <<< ((30 : Int32).toInt64 &&& 63)) + r24)), (0, .ref d0), (1, .int a1)]) hx hb dX1_divide_47 hl (k := 4) rfl (by rfl) (by decide) rfl (fun ls hl => ?_)
          refine lv_goto (tgt := 8) hx hb dX1_divide_50 (by decide) ?_
          obtain rfl := o_ret hf
          exact ih8 _ _ (lpK_r h8z) _ _ _ hP hD hS (lv_sub hl [3, 4, 1, 0] rfl) K8_0
  obtain ⟨e8, h8q, hf⟩ := o_bs hf
  obtain ⟨n8v, h8q⟩ := lpF_ex h8q
  refine L8 n8v _ e8 h8q _ _ _ hP hD hS (lv_sub hl [2, 3, 1, 0] rfl) ?_
  intro H locs ls hP hD hS hl
  obtain rfl := o_ret hf
  exact k_vret hx hb hr hP hD hS (Nat.zero_le _) (Nat.zero_le _) hlocks dX1_divide_53
noncomputable def mX1_limbOf (u : KS) (a1 : Int32) (a2 : Int32) : Option (Int32) :=
  if a1 = 0 then
  ((mX5_at_ 3 (gA u 2) a2).bind fun r16 =>
  some (r16.toInt32))
  else
  ((mX5_at_ 3 (gA u 3) a2).bind fun r16 =>
  some (r16.toInt32))
abbrev rmX1_limbOf : Room := { frames := 1, cells := 0, slots := 0, locals := 21 }
set_option maxRecDepth 100000 in
set_option maxHeartbeats 4000000 in
theorem zX1_limbOf (l : Launch) (D : va_G) (cy : Nat → ClassId) (sa : Nat → Nat) (q : Nat → Nat) (rest : va_W) (sz : Nat) (u : KS) (a1 : Int32) (a2 : Int32) (res : Int32) (hf : mX1_limbOf u a1 a2 = some res) : kMi l yX1_limbOf (wsK yX1_limbOf cX1_limbOf 3 (some .int)) rmX1_limbOf D cy sa (WX q cy u ++ rest) sz [.ref (q 21), .int a1, .int a2] res (WX q cy u ++ rest) 0 0 := by
  refine kM_of (Qc := fun A => kQi D A res (WX q cy u ++ rest)) (cc := cX1_limbOf) (maxL := 3) (ret := (some .int)) (by decide) (Nat.le_of_ble_eq_true rfl) ?_
  intro p e s m below meth c A hx hb hml hr hts hown hlocks hin hA hP hD hS hE hsz ls hl
  have hown : s.vm.findClass RX1 = some m.cls := hown
  obtain ⟨H, hH0⟩ : ∃ H, H = s.heap := ⟨_, rfl⟩
  obtain ⟨locs, hlocs0⟩ : ∃ locs : List Loc, locs = [] := ⟨_, rfl⟩
  have hP : va_P D vwCl (WX q cy u ++ rest) H := by rw [hH0]; exact hP
  have hS : va_S A s.heap H locs := by rw [hH0, hlocs0]; exact hS
  have hl : lv_has ls 3 [(0, .ref (q 21)), (1, .int a1), (2, .int a2)] := hl
  suffices hgoal : W p l e rmX1_limbOf s m ([.ref (q 21), .int a1, .int a2] : List Value).toArray below meth c H locs 0 0 (MQ below (kQi D A res (WX q cy u ++ rest)) ([.ref (q 21), .int a1, .int a2] : List Value).toArray s 0 0 A) (F0 m 0 ls []) by rw [hH0, hlocs0] at hgoal; exact hgoal
  clear hH0 hlocs0
  unfold mX1_limbOf at hf
  refine lv_iload_n hx hb dX1_limbOf_0 rfl (lv_at hl 1 rfl) ?_
  refine lv_if_ne (tgt := 11) hx hb dX1_limbOf_1 (by decide) (fun c1 => ?_) (fun c1 => ?_)
  · have hf := o_in c1 hf
    refine lv_aload_n hx hb dX1_limbOf_11 rfl (lv_at hl 0 rfl) ?_
    refine va_get (ci := 1) (v := .ref (q 23)) (C := RX1) (T := TX1) (N := 5) hx hb hts inlX1 hown hE.1 hP 21 rfl rfl 1 (by decide) (hts _ wB71) (fun _ h9 => h9) rfl dX1_limbOf_12 ?_
    refine lv_iload_n hx hb dX1_limbOf_15 rfl (lv_at hl 2 rfl) ?_
    obtain ⟨r16, h16r, hf⟩ := o_bs hf
    refine k_gol (va_runSN (As := [.ref (q 23), .int a2]) (rest := []) ⟨hx, hb, hml, hown, hts⟩ (zX5_at_ l D cy sa (WX q cy u ++ rest) H.size 23 (q 23) 3 (gA u 3) a2 r16 rfl h16r) ⟨va_cnB 2 hts (gB_K wB414) rfl rfl rfl (hE.2.1.1 _ (List.mem_of_getElem? (i := 6) rfl)) (hts _ wB2) (by decide +kernel) ⟨Nat.le_of_ble_eq_true rfl, Nat.le_of_ble_eq_true rfl⟩, hts _ wB413, trivial⟩ ⟨kP.blind, k_pre hP hD hS hE hA⟩ rfl rfl hl.1 rfl (lv_room (Nat.le_of_ble_eq_true rfl)) dX1_limbOf_16 ⟨Nat.zero_le _, Nat.zero_le _⟩) hD hS hA (fun H locs hP hD hS => ?_)
    refine lv_l2i (v := (r16.toInt32)) hx hb dX1_limbOf_19 rfl ?_
    obtain rfl := o_ret hf
    exact k_iret hx hb hr hP hD hS (Nat.zero_le _) (Nat.zero_le _) hlocks dX1_limbOf_20
  · have hf := o_ip c1 hf
    refine lv_aload_n hx hb dX1_limbOf_4 rfl (lv_at hl 0 rfl) ?_
    refine va_get (ci := 1) (v := .ref (q 22)) (C := RX1) (T := TX1) (N := 5) hx hb hts inlX1 hown hE.1 hP 21 rfl rfl 0 (by decide) (hts _ wB70) (fun _ h9 => h9) rfl dX1_limbOf_5 ?_
    refine lv_goto (tgt := 15) hx hb dX1_limbOf_8 (by decide) ?_
    refine lv_iload_n hx hb dX1_limbOf_15 rfl (lv_at hl 2 rfl) ?_
    obtain ⟨r16, h16r, hf⟩ := o_bs hf
    refine k_gol (va_runSN (As := [.ref (q 22), .int a2]) (rest := []) ⟨hx, hb, hml, hown, hts⟩ (zX5_at_ l D cy sa (WX q cy u ++ rest) H.size 22 (q 22) 3 (gA u 2) a2 r16 rfl h16r) ⟨va_cnB 2 hts (gB_K wB414) rfl rfl rfl (hE.2.1.1 _ (List.mem_of_getElem? (i := 6) rfl)) (hts _ wB2) (by decide +kernel) ⟨Nat.le_of_ble_eq_true rfl, Nat.le_of_ble_eq_true rfl⟩, hts _ wB413, trivial⟩ ⟨kP.blind, k_pre hP hD hS hE hA⟩ rfl rfl hl.1 rfl (lv_room (Nat.le_of_ble_eq_true rfl)) dX1_limbOf_16 ⟨Nat.zero_le _, Nat.zero_le _⟩) hD hS hA (fun H locs hP hD hS => ?_)
    refine lv_l2i (v := (r16.toInt32)) hx hb dX1_limbOf_19 rfl ?_
    obtain rfl := o_ret hf
    exact k_iret hx hb hr hP hD hS (Nat.zero_le _) (Nat.zero_le _) hlocks dX1_limbOf_20
noncomputable def mX1_limbsOf_s3 (n0 : Nat) (f0 : Nat → Int64) (s3 : Int32) : Option ((Int32) ⊕ (Int32)) :=
  if s3 ≤ 0 then
  (some (.inl s3))
  else
  ((mX5_at_ n0 f0 (s3 - 1)).bind fun r11 =>
  if (lg_cmp r11 0) = 0 then
  (some (.inr (s3 + (-1))))
  else
  (some (.inl s3)))
noncomputable def mX1_limbsOf (n0 : Nat) (f0 : Nat → Int64) : Option (Int32) :=
  (lpF (mX1_limbsOf_s3 n0 f0) (Int32.ofNat n0)).bind fun e3 =>
  some e3
abbrev rmX1_limbsOf : Room := { frames := 1, cells := 0, slots := 0, locals := 21 }
set_option maxRecDepth 100000 in
set_option maxHeartbeats 4000000 in
theorem zX1_limbsOf (l : Launch) (D : va_G) (cy : Nat → ClassId) (sa : Nat → Nat) (ws : va_W) (sz : Nat) (k0 d0 n0 : Nat) (f0 : Nat → Int64) (res : Int32) (ha0 : ws[k0]? = some (kIJ d0 (cy 1) n0 f0)) (hf : mX1_limbsOf n0 f0 = some res) : kMi l yX1_limbsOf (wsK yX1_limbsOf cX1_limbsOf 2 (some .int)) rmX1_limbsOf D cy sa (ws) sz [.ref d0] res (ws) 0 0 := by
  refine kM_of (Qc := fun A => kQi D A res (ws)) (cc := cX1_limbsOf) (maxL := 2) (ret := (some .int)) (by decide) (Nat.le_of_ble_eq_true rfl) ?_
  intro p e s m below meth c A hx hb hml hr hts hown hlocks hin hA hP hD hS hE hsz ls hl
  have hown : s.vm.findClass RX1 = some m.cls := hown
  obtain ⟨H, hH0⟩ : ∃ H, H = s.heap := ⟨_, rfl⟩
  obtain ⟨locs, hlocs0⟩ : ∃ locs : List Loc, locs = [] := ⟨_, rfl⟩
  have hP : va_P D vwCl (ws) H := by rw [hH0]; exact hP
  have hS : va_S A s.heap H locs := by rw [hH0, hlocs0]; exact hS
  have hl : lv_has ls 2 [(0, .ref d0)] := hl
  suffices hgoal : W p l e rmX1_limbsOf s m ([.ref d0] : List Value).toArray below meth c H locs 0 0 (MQ below (kQi D A res (ws)) ([.ref d0] : List Value).toArray s 0 0 A) (F0 m 0 ls []) by rw [hH0, hlocs0] at hgoal; exact hgoal
  clear hH0 hlocs0
  unfold mX1_limbsOf at hf
  refine lv_aload_n hx hb dX1_limbsOf_0 rfl (lv_at hl 0 rfl) ?_
  refine va_alen (v := (Int32.ofNat n0)) hx hb hE.1 hP k0 1 ha0 rfl rfl dX1_limbsOf_1 ?_
  refine lv_istore_n (lv' := [(1, .int (Int32.ofNat n0)), (0, .ref d0)]) hx hb dX1_limbsOf_2 rfl hl (by decide) rfl (fun ls hl => ?_)
  have L3 : ∀ (n3v : Nat) (s3 : Int32) (e3 : Int32), lpO (mX1_limbsOf_s3 n0 f0) n3v s3 = some e3 → ∀ (H : Heap) (locs : List Loc) (ls : Array Slot), va_P D vwCl (ws) H → va_D A (ws) → va_S A s.heap H locs → lv_has ls 2 [(0, .ref d0), (1, .int s3)] → (∀ (H : Heap) (locs : List Loc) (ls : Array Slot), va_P D vwCl (ws) H → va_D A (ws) → va_S A s.heap H locs → lv_has ls 2 [(1, .int e3)] → W p l e rmX1_limbsOf s m ([.ref d0] : List Value).toArray below meth c H locs 0 0 (MQ below (kQi D A res (ws)) ([.ref d0] : List Value).toArray s 0 0 A) (F0 m 25 ls [])) → W p l e rmX1_limbsOf s m ([.ref d0] : List Value).toArray below meth c H locs 0 0 (MQ below (kQi D A res (ws)) ([.ref d0] : List Value).toArray s 0 0 A) (F0 m 3 ls []) := by
    intro n3v
    induction n3v with
    | zero => intro s3 e3 h; exact (lpO_z h).elim
    | succ n3v ih3 =>
      intro s3 e3 h3z H locs ls hP hD hS hl K3_0
      obtain ⟨x3, hf, h3z⟩ := lpO_s h3z
      unfold mX1_limbsOf_s3 at hf
      refine lv_iload_n hx hb dX1_limbsOf_3 rfl (lv_at hl 1 rfl) ?_
      refine lv_if_le (tgt := 25) hx hb dX1_limbsOf_4 (by decide) (fun c4 => ?_) (fun c4 => ?_)
      · have hf := o_ip c4 hf
        obtain rfl := o_ret hf
        obtain rfl := lpK_l h3z
        exact K3_0 _ _ _ hP hD hS (lv_sub hl [1] rfl)
      · have hf := o_in c4 hf
        refine lv_aload_n hx hb dX1_limbsOf_7 rfl (lv_at hl 0 rfl) ?_
        refine lv_iload_n hx hb dX1_limbsOf_8 rfl (lv_at hl 1 rfl) ?_
        refine lv_iconst (v := 1) hx hb dX1_limbsOf_9 (by decide) ?_
        refine lv_isub hx hb dX1_limbsOf_10 ?_
        obtain ⟨r11, h11r, hf⟩ := o_bs hf
        refine k_gol (va_runSN (As := [.ref d0, .int (s3 - 1)]) (rest := []) ⟨hx, hb, hml, hown, hts⟩ (zX5_at_ l D cy sa (ws) H.size k0 d0 n0 f0 (s3 - 1) r11 ha0 h11r) ⟨va_cnB 2 hts (gB_K wB414) rfl rfl rfl (hE.2.1.1 _ (List.mem_of_getElem? (i := 6) rfl)) (hts _ wB2) (by decide +kernel) ⟨Nat.le_of_ble_eq_true rfl, Nat.le_of_ble_eq_true rfl⟩, hts _ wB413, trivial⟩ ⟨kP.blind, k_pre hP hD hS hE hA⟩ rfl rfl hl.1 rfl (lv_room (Nat.le_of_ble_eq_true rfl)) dX1_limbsOf_11 ⟨Nat.zero_le _, Nat.zero_le _⟩) hD hS hA (fun H locs hP hD hS => ?_)
        refine lv_lconst (v := 0) hx hb dX1_limbsOf_14 (by decide) ?_
        refine W.lcmp hx hb dX1_limbsOf_15 ?_
        refine lv_if_ne (tgt := 25) hx hb dX1_limbsOf_16 (by decide) (fun c16 => ?_) (fun c16 => ?_)
        · have hf := o_in c16 hf
          obtain rfl := o_ret hf
          obtain rfl := lpK_l h3z
          exact K3_0 _ _ _ hP hD hS (lv_sub hl [1] rfl)
        · have hf := o_ip c16 hf
          refine lv_iinc (v := (s3 + (-1))) (lv' := [(1, .int (s3 + (-1))), (0, .ref d0)]) hx hb dX1_limbsOf_19 hl (k := 1) rfl (by rfl) (by decide) rfl (fun ls hl => ?_)
          refine lv_goto (tgt := 3) hx hb dX1_limbsOf_22 (by decide) ?_
          obtain rfl := o_ret hf
          exact ih3 _ _ (lpK_r h3z) _ _ _ hP hD hS (lv_sub hl [1, 0] rfl) K3_0
  obtain ⟨e3, h3q, hf⟩ := o_bs hf
  obtain ⟨n3v, h3q⟩ := lpF_ex h3q
  refine L3 n3v _ e3 h3q _ _ _ hP hD hS (lv_sub hl [1, 0] rfl) ?_
  intro H locs ls hP hD hS hl
  refine lv_iload_n hx hb dX1_limbsOf_25 rfl (lv_at hl 0 rfl) ?_
  obtain rfl := o_ret hf
  exact k_iret hx hb hr hP hD hS (Nat.zero_le _) (Nat.zero_le _) hlocks dX1_limbsOf_26
