abbrev rmX5_image_b : Room := { frames := 3, cells := 0, slots := 0, locals := 64 }
set_option maxRecDepth 100000 in
set_option maxHeartbeats 4000000 in
theorem zX5_image_b (l : Launch) (D : va_G) (cy : Nat → ClassId) (sa : Nat → Nat) (q : Nat → Nat) (rest : va_W) (sz : Nat) (u : KS) (a1 : Int32) (res : Int32 × KS) (ha : a1 < 0 ∨ ¬ a1 < 2) (hf : mX5_bad u = some res) : kMi l yX5_image (wsK yX5_image cX5_image 3 (some .int)) rmX5_image_b D cy sa (WX q cy u ++ rest) sz [.ref (q 0), .int a1] res.1 (WX q cy res.2 ++ rest) 0 0 := by
  refine kM_of (Qc := fun A => (kQi D A res.1 (WX q cy res.2 ++ rest))) (cc := cX5_image) (maxL := 3) (ret := (some .int)) (by decide) (Nat.le_of_ble_eq_true rfl) ?_
  intro p e s m below meth c A hx hb hml hr hts hown hlocks hin hA hP hD hS hE hsz ls hl
  have hown : s.vm.findClass RX5 = some m.cls := hown
  obtain ⟨H, hH0⟩ : ∃ H, H = s.heap := ⟨_, rfl⟩
  obtain ⟨locs, hlocs0⟩ : ∃ locs : List Loc, locs = [] := ⟨_, rfl⟩
  have hP : va_P D vwCl (WX q cy u ++ rest) H := by rw [hH0]; exact hP
  have hS : va_S A s.heap H locs := by rw [hH0, hlocs0]; exact hS
  have hl : lv_has ls 3 [(0, .ref (q 0)), (1, .int a1)] := hl
  suffices hgoal : W p l e rmX5_image_b s m ([.ref (q 0), .int a1] : List Value).toArray below meth c H locs 0 0 (MQ below (kQi D A res.1 (WX q cy res.2 ++ rest)) ([.ref (q 0), .int a1] : List Value).toArray s 0 0 A) (F0 m 0 ls []) by rw [hH0, hlocs0] at hgoal; exact hgoal
  clear hH0 hlocs0
  refine lv_iload_n hx hb dX5_image_0 rfl (lv_at hl 1 rfl) ?_
  refine lv_if_lt (tgt := 13) hx hb dX5_image_1 (by decide) (fun c1 => ?_) (fun c1 => ?_)
  · skip
    refine lv_aload_n hx hb dX5_image_13 rfl (lv_at hl 0 rfl) ?_
    refine k_goi (va_runV (As := []) (rest := []) ⟨hx, hb, hml, hown, hts⟩ (zX5_bad l D cy sa q rest H.size u res hf) (cwV 0 hts (gB_V wB102 wB103 wB104 wB2 wB105) rfl rfl rfl (by decide +kernel) ⟨Nat.le_of_ble_eq_true rfl, Nat.le_of_ble_eq_true rfl⟩) ⟨kP.blind, k_recv hE hP (ci := 5) (q0 := 0) rfl rfl, k_pre hP hD hS hE hA⟩ rfl rfl hl.1 rfl (lv_room (Nat.le_of_ble_eq_true rfl)) dX5_image_14 ⟨Nat.le_of_ble_eq_true rfl, Nat.le_of_ble_eq_true rfl⟩) hD hS hA (fun H locs hP hD hS => ?_)
    exact k_iret hx hb hr hP hD hS (Nat.zero_le _) (Nat.zero_le _) hlocks dX5_image_17
  refine lv_iload_n hx hb dX5_image_4 rfl (lv_at hl 1 rfl) ?_
  refine lv_aload_n hx hb dX5_image_5 rfl (lv_at hl 0 rfl) ?_
  refine va_get (ci := 5) (v := .ref (q 1)) (C := RX5) (T := TX5) (N := 9) hx hb hts inlX5 hown hE.1 hP 0 rfl rfl 1 (by decide) (hts _ wB17) (fun _ h9 => h9) rfl dX5_image_6 ?_
  refine va_alen (v := 2) hx hb hE.1 hP 1 3 rfl rfl rfl dX5_image_9 ?_
  refine lv_icmp_lt (tgt := 18) hx hb dX5_image_10 (by decide) (fun c10 => (ha.elim (fun h => c1 h) (fun h => h c10)).elim) (fun c10 => ?_)
  refine lv_aload_n hx hb dX5_image_13 rfl (lv_at hl 0 rfl) ?_
  refine k_goi (va_runV (As := []) (rest := []) ⟨hx, hb, hml, hown, hts⟩ (zX5_bad l D cy sa q rest H.size u res hf) (cwV 0 hts (gB_V wB102 wB103 wB104 wB2 wB105) rfl rfl rfl (by decide +kernel) ⟨Nat.le_of_ble_eq_true rfl, Nat.le_of_ble_eq_true rfl⟩) ⟨kP.blind, k_recv hE hP (ci := 5) (q0 := 0) rfl rfl, k_pre hP hD hS hE hA⟩ rfl rfl hl.1 rfl (lv_room (Nat.le_of_ble_eq_true rfl)) dX5_image_14 ⟨Nat.le_of_ble_eq_true rfl, Nat.le_of_ble_eq_true rfl⟩) hD hS hA (fun H locs hP hD hS => ?_)
  exact k_iret hx hb hr hP hD hS (Nat.zero_le _) (Nat.zero_le _) hlocks dX5_image_17
abbrev rmX5_from_b : Room := { frames := 3, cells := 0, slots := 0, locals := 64 }
set_option maxRecDepth 100000 in
set_option maxHeartbeats 4000000 in
theorem zX5_from_b (l : Launch) (D : va_G) (cy : Nat → ClassId) (sa : Nat → Nat) (q : Nat → Nat) (rest : va_W) (sz : Nat) (u : KS) (a1 : Int32) (res : Int32 × KS) (ha : a1 < 0 ∨ ¬ a1 < 2) (hf : mX5_bad u = some res) : kMi l yX5_from (wsK yX5_from cX5_from 3 (some .int)) rmX5_from_b D cy sa (WX q cy u ++ rest) sz [.ref (q 0), .int a1] res.1 (WX q cy res.2 ++ rest) 0 0 := by
  refine kM_of (Qc := fun A => (kQi D A res.1 (WX q cy res.2 ++ rest))) (cc := cX5_from) (maxL := 3) (ret := (some .int)) (by decide) (Nat.le_of_ble_eq_true rfl) ?_
  intro p e s m below meth c A hx hb hml hr hts hown hlocks hin hA hP hD hS hE hsz ls hl
  have hown : s.vm.findClass RX5 = some m.cls := hown
  obtain ⟨H, hH0⟩ : ∃ H, H = s.heap := ⟨_, rfl⟩
  obtain ⟨locs, hlocs0⟩ : ∃ locs : List Loc, locs = [] := ⟨_, rfl⟩
  have hP : va_P D vwCl (WX q cy u ++ rest) H := by rw [hH0]; exact hP
  have hS : va_S A s.heap H locs := by rw [hH0, hlocs0]; exact hS
  have hl : lv_has ls 3 [(0, .ref (q 0)), (1, .int a1)] := hl
  suffices hgoal : W p l e rmX5_from_b s m ([.ref (q 0), .int a1] : List Value).toArray below meth c H locs 0 0 (MQ below (kQi D A res.1 (WX q cy res.2 ++ rest)) ([.ref (q 0), .int a1] : List Value).toArray s 0 0 A) (F0 m 0 ls []) by rw [hH0, hlocs0] at hgoal; exact hgoal
  clear hH0 hlocs0
  refine lv_iload_n hx hb dX5_from_0 rfl (lv_at hl 1 rfl) ?_
  refine lv_if_lt (tgt := 13) hx hb dX5_from_1 (by decide) (fun c1 => ?_) (fun c1 => ?_)
  · skip
    refine lv_aload_n hx hb dX5_from_13 rfl (lv_at hl 0 rfl) ?_
    refine k_goi (va_runV (As := []) (rest := []) ⟨hx, hb, hml, hown, hts⟩ (zX5_bad l D cy sa q rest H.size u res hf) (cwV 0 hts (gB_V wB102 wB103 wB104 wB2 wB105) rfl rfl rfl (by decide +kernel) ⟨Nat.le_of_ble_eq_true rfl, Nat.le_of_ble_eq_true rfl⟩) ⟨kP.blind, k_recv hE hP (ci := 5) (q0 := 0) rfl rfl, k_pre hP hD hS hE hA⟩ rfl rfl hl.1 rfl (lv_room (Nat.le_of_ble_eq_true rfl)) dX5_from_14 ⟨Nat.le_of_ble_eq_true rfl, Nat.le_of_ble_eq_true rfl⟩) hD hS hA (fun H locs hP hD hS => ?_)
    exact k_iret hx hb hr hP hD hS (Nat.zero_le _) (Nat.zero_le _) hlocks dX5_from_17
  refine lv_iload_n hx hb dX5_from_4 rfl (lv_at hl 1 rfl) ?_
  refine lv_aload_n hx hb dX5_from_5 rfl (lv_at hl 0 rfl) ?_
  refine va_get (ci := 5) (v := .ref (q 1)) (C := RX5) (T := TX5) (N := 9) hx hb hts inlX5 hown hE.1 hP 0 rfl rfl 1 (by decide) (hts _ wB17) (fun _ h9 => h9) rfl dX5_from_6 ?_
  refine va_alen (v := 2) hx hb hE.1 hP 1 3 rfl rfl rfl dX5_from_9 ?_
  refine lv_icmp_lt (tgt := 18) hx hb dX5_from_10 (by decide) (fun c10 => (ha.elim (fun h => c1 h) (fun h => h c10)).elim) (fun c10 => ?_)
  refine lv_aload_n hx hb dX5_from_13 rfl (lv_at hl 0 rfl) ?_
  refine k_goi (va_runV (As := []) (rest := []) ⟨hx, hb, hml, hown, hts⟩ (zX5_bad l D cy sa q rest H.size u res hf) (cwV 0 hts (gB_V wB102 wB103 wB104 wB2 wB105) rfl rfl rfl (by decide +kernel) ⟨Nat.le_of_ble_eq_true rfl, Nat.le_of_ble_eq_true rfl⟩) ⟨kP.blind, k_recv hE hP (ci := 5) (q0 := 0) rfl rfl, k_pre hP hD hS hE hA⟩ rfl rfl hl.1 rfl (lv_room (Nat.le_of_ble_eq_true rfl)) dX5_from_14 ⟨Nat.le_of_ble_eq_true rfl, Nat.le_of_ble_eq_true rfl⟩) hD hS hA (fun H locs hP hD hS => ?_)
  exact k_iret hx hb hr hP hD hS (Nat.zero_le _) (Nat.zero_le _) hlocks dX5_from_17
abbrev rmX5_from_n : Room := { frames := 3, cells := 0, slots := 0, locals := 64 }
set_option maxRecDepth 100000 in
set_option maxHeartbeats 4000000 in
theorem zX5_from_n (l : Launch) (D : va_G) (cy : Nat → ClassId) (sa : Nat → Nat) (q : Nat → Nat) (rest : va_W) (sz : Nat) (u : KS) (a1 : Int32) (res : Int32 × KS) (h0 : ¬ a1 < 0) (h2 : a1 < 2) (hi : inb a1 2) (hn : gO u a1.toNatClampNeg = none) (hf : mX5_no u = some res) : kMi l yX5_from (wsK yX5_from cX5_from 3 (some .int)) rmX5_from_n D cy sa (WX q cy u ++ rest) sz [.ref (q 0), .int a1] res.1 (WX q cy res.2 ++ rest) 0 0 := by
  refine kM_of (Qc := fun A => (kQi D A res.1 (WX q cy res.2 ++ rest))) (cc := cX5_from) (maxL := 3) (ret := (some .int)) (by decide) (Nat.le_of_ble_eq_true rfl) ?_
  intro p e s m below meth c A hx hb hml hr hts hown hlocks hin hA hP hD hS hE hsz ls hl
  have hown : s.vm.findClass RX5 = some m.cls := hown
  obtain ⟨H, hH0⟩ : ∃ H, H = s.heap := ⟨_, rfl⟩
  obtain ⟨locs, hlocs0⟩ : ∃ locs : List Loc, locs = [] := ⟨_, rfl⟩
  have hP : va_P D vwCl (WX q cy u ++ rest) H := by rw [hH0]; exact hP
  have hS : va_S A s.heap H locs := by rw [hH0, hlocs0]; exact hS
  have hl : lv_has ls 3 [(0, .ref (q 0)), (1, .int a1)] := hl
  suffices hgoal : W p l e rmX5_from_n s m ([.ref (q 0), .int a1] : List Value).toArray below meth c H locs 0 0 (MQ below (kQi D A res.1 (WX q cy res.2 ++ rest)) ([.ref (q 0), .int a1] : List Value).toArray s 0 0 A) (F0 m 0 ls []) by rw [hH0, hlocs0] at hgoal; exact hgoal
  clear hH0 hlocs0
  refine lv_iload_n hx hb dX5_from_0 rfl (lv_at hl 1 rfl) ?_
  refine lv_if_lt (tgt := 13) hx hb dX5_from_1 (by decide) (fun c1 => absurd c1 h0) (fun c1 => ?_)
  refine lv_iload_n hx hb dX5_from_4 rfl (lv_at hl 1 rfl) ?_
  refine lv_aload_n hx hb dX5_from_5 rfl (lv_at hl 0 rfl) ?_
  refine va_get (ci := 5) (v := .ref (q 1)) (C := RX5) (T := TX5) (N := 9) hx hb hts inlX5 hown hE.1 hP 0 rfl rfl 1 (by decide) (hts _ wB17) (fun _ h9 => h9) rfl dX5_from_6 ?_
  refine va_alen (v := 2) hx hb hE.1 hP 1 3 rfl rfl rfl dX5_from_9 ?_
  refine lv_icmp_lt (tgt := 18) hx hb dX5_from_10 (by decide) (fun c10 => ?_) (fun c10 => absurd h2 c10)
  refine lv_aload_n hx hb dX5_from_18 rfl (lv_at hl 0 rfl) ?_
  refine va_get (ci := 5) (v := .ref (q 1)) (C := RX5) (T := TX5) (N := 9) hx hb hts inlX5 hown hE.1 hP 0 rfl rfl 1 (by decide) (hts _ wB17) (fun _ h9 => h9) rfl dX5_from_19 ?_
  refine lv_iload_n hx hb dX5_from_22 rfl (lv_at hl 1 rfl) ?_
  refine va_aldq hx hb hE.1 hP 1 3 rfl rfl hi dX5_from_23 ?_
  rw [hn]
  refine lv_astore_nN (lv' := [(2, .null), (0, .ref (q 0)), (1, .int a1)]) hx hb dX5_from_24 rfl hl (by decide) rfl (fun ls hl => ?_)
  refine lv_aload_nN hx hb dX5_from_25 rfl (lv_at hl 0 rfl) ?_
  refine lv_ifnonnullN hx hb dX5_from_26 ?_
  refine lv_aload_n hx hb dX5_from_29 rfl (lv_at hl 1 rfl) ?_
  refine k_goi (va_runV (As := []) (rest := []) ⟨hx, hb, hml, hown, hts⟩ (zX5_no l D cy sa q rest H.size u res hf) (cwV 0 hts (gB_V wB299 wB300 wB301 wB2 wB302) rfl rfl rfl (by decide +kernel) ⟨Nat.le_of_ble_eq_true rfl, Nat.le_of_ble_eq_true rfl⟩) ⟨kP.blind, k_recv hE hP (ci := 5) (q0 := 0) rfl rfl, k_pre hP hD hS hE hA⟩ rfl rfl hl.1 rfl (lv_room (Nat.le_of_ble_eq_true rfl)) dX5_from_30 ⟨Nat.le_of_ble_eq_true rfl, Nat.le_of_ble_eq_true rfl⟩) hD hS hA (fun H locs hP hD hS => ?_)
  exact k_iret hx hb hr hP hD hS (Nat.zero_le _) (Nat.zero_le _) hlocks dX5_from_33
def kJ (k n : KS) : KS := (fun i => if i < 10 then gI k i else gI n (i - 10), fun i => if i < 10 then gR k i else gR n (i - 10), fun _ => 0, fun _ _ => 0, fun _ => none)
def kNow (u r : KS) : KS := sR (sR (sR (sR (sR (sR (sI (sI (sI u 2 (gI r 2)) 3 (gI r 3)) 4 (gI r 4)) 1 (gR r 1)) 2 (gR r 2)) 3 (gR r 3)) 4 (gR r 4)) 5 (gR r 5)) 6 (gR r 6)
theorem k_become {k r : KS} (h : mX3_become k = some r) : ∃ r1 r2 r3 r4 r5 r6, r = sR (sR (sR (sR (sR (sR (sI (sI (sI k 2 (gI k 12)) 3 (gI k 13)) 4 (gI k 14)) 1 r1) 2 r2) 3 r3) 4 r4) 5 r5) 6 r6 ∧ mX5_copy 120 (gR k 11) 120 (gR k 1) = some r1 ∧ mX5_copy 4 (gR k 12) 4 (gR k 2) = some r2 ∧ mX5_copy 7 (gR k 13) 7 (gR k 3) = some r3 ∧ mX5_copy 4 (gR k 14) 4 (gR k 4) = some r4 ∧ mX5_copy 32 (gR k 15) 32 (gR k 5) = some r5 ∧ mX5_copy 18 (gR k 16) 18 (gR k 6) = some r6 := by
  unfold mX3_become at h
  obtain ⟨r1, e1, h⟩ := o_bs h
  obtain ⟨r2, e2, h⟩ := o_bs h
  obtain ⟨r3, e3, h⟩ := o_bs h
  obtain ⟨r4, e4, h⟩ := o_bs h
  obtain ⟨r5, e5, h⟩ := o_bs h
  obtain ⟨r6, e6, h⟩ := o_bs h
  exact ⟨r1, r2, r3, r4, r5, r6, o_ret h, e1, e2, e3, e4, e5, e6⟩
noncomputable def mX5_fromS (u k : KS) : Option (Int32 × KS) :=
  (mX3_become (kJ u k)).bind fun r => (mX5_dayChanged (kNow u r)).bind fun r2 => some (1, r2)
def WXr (q : Nat → Nat) (cy : Nat → ClassId) (u : KS) : va_W := [(q 0, .inr (5, [.ref (q 3), .ref (q 1), .ref (q 10), .ref (q 15), .ref (q 19), .ref (q 21), .ref (q 2), .int (gI u 0), .int (gI u 1)])), (q 1, .inl (cy 3, 2, .inr (.inr (.inr (.inr (gO u)))))), (q 2, .inl (cy 0, 3, .inl (gR u 0))), (q 10, .inr (0, [.int (gI u 5), .int (gI u 6), .ref (q 11), .ref (q 12), .ref (q 13), .ref (q 14), .int (gI u 7), .int (gI u 8), .int (gI u 9)])), (q 11, .inl (cy 0, 121, .inl (gR u 7))), (q 12, .inl (cy 0, 120, .inl (gR u 8))), (q 13, .inl (cy 0, 120, .inl (gR u 9))), (q 14, .inl (cy 0, 360, .inl (gR u 10))), (q 15, .inr (2, [.long (gL u 0), .ref (q 16), .ref (q 17), .ref (q 18)])), (q 16, .inl (cy 0, 21, .inl (gR u 11))), (q 17, .inl (cy 1, 2731, .inr (.inl (gA u 0)))), (q 18, .inl (cy 0, 2731, .inl (gR u 12))), (q 19, .inr (4, [.ref (q 20), .long (gL u 1), .int (gI u 10)])), (q 20, .inl (cy 1, 5, .inr (.inl (gA u 1)))), (q 21, .inr (1, [.ref (q 22), .ref (q 23), .ref (q 24), .ref (q 25), .ref (q 26)])), (q 22, .inl (cy 1, 3, .inr (.inl (gA u 2)))), (q 23, .inl (cy 1, 3, .inr (.inl (gA u 3)))), (q 24, .inl (cy 1, 3, .inr (.inl (gA u 4)))), (q 25, .inl (cy 1, 3, .inr (.inl (gA u 5)))), (q 26, .inl (cy 1, 3, .inr (.inl (gA u 6))))]
abbrev rmX5_from_s : Room := { frames := 2, cells := 0, slots := 0, locals := 43 }
set_option maxRecDepth 100000 in
set_option maxHeartbeats 4000000 in
theorem zX5_from_s (l : Launch) (D : va_G) (cy : Nat → ClassId) (sa : Nat → Nat) (q : Nat → Nat) (rest : va_W) (sz : Nat) (u : KS) (t : Nat → Nat) (k : KS) (a1 : Int32) (res : Int32 × KS) (h0 : ¬ a1 < 0) (h2 : a1 < 2) (hi : inb a1 2) (hn : gO u a1.toNatClampNeg = some (t 0)) (hf : mX5_fromS u k = some res) : kMi l yX5_from (wsK yX5_from cX5_from 3 (some .int)) rmX5_from_s D cy sa (WX q cy u ++ (Wkept t cy k ++ rest)) sz [.ref (q 0), .int a1] res.1 (WX q cy res.2 ++ (Wkept t cy k ++ rest)) 0 0 := by
  refine kM_of (Qc := fun A => (kQi D A res.1 (WX q cy res.2 ++ (Wkept t cy k ++ rest)))) (cc := cX5_from) (maxL := 3) (ret := (some .int)) (by decide) (Nat.le_of_ble_eq_true rfl) ?_
  intro p e s m below meth c A hx hb hml hr hts hown hlocks hin hA hP hD hS hE hsz ls hl
  have hown : s.vm.findClass RX5 = some m.cls := hown
  obtain ⟨H, hH0⟩ : ∃ H, H = s.heap := ⟨_, rfl⟩
  obtain ⟨locs, hlocs0⟩ : ∃ locs : List Loc, locs = [] := ⟨_, rfl⟩
  have hP : va_P D vwCl (WX q cy u ++ (Wkept t cy k ++ rest)) H := by rw [hH0]; exact hP
  have hS : va_S A s.heap H locs := by rw [hH0, hlocs0]; exact hS
  have hl : lv_has ls 3 [(0, .ref (q 0)), (1, .int a1)] := hl
  suffices hgoal : W p l e rmX5_from_s s m ([.ref (q 0), .int a1] : List Value).toArray below meth c H locs 0 0 (MQ below (kQi D A res.1 (WX q cy res.2 ++ (Wkept t cy k ++ rest))) ([.ref (q 0), .int a1] : List Value).toArray s 0 0 A) (F0 m 0 ls []) by rw [hH0, hlocs0] at hgoal; exact hgoal
  clear hH0 hlocs0
  refine lv_iload_n hx hb dX5_from_0 rfl (lv_at hl 1 rfl) ?_
  refine lv_if_lt (tgt := 13) hx hb dX5_from_1 (by decide) (fun c1 => absurd c1 h0) (fun c1 => ?_)
  refine lv_iload_n hx hb dX5_from_4 rfl (lv_at hl 1 rfl) ?_
  refine lv_aload_n hx hb dX5_from_5 rfl (lv_at hl 0 rfl) ?_
  refine va_get (ci := 5) (v := .ref (q 1)) (C := RX5) (T := TX5) (N := 9) hx hb hts inlX5 hown hE.1 hP 0 rfl rfl 1 (by decide) (hts _ wB17) (fun _ h9 => h9) rfl dX5_from_6 ?_
  refine va_alen (v := 2) hx hb hE.1 hP 1 3 rfl rfl rfl dX5_from_9 ?_
  refine lv_icmp_lt (tgt := 18) hx hb dX5_from_10 (by decide) (fun c10 => ?_) (fun c10 => absurd h2 c10)
  refine lv_aload_n hx hb dX5_from_18 rfl (lv_at hl 0 rfl) ?_
  refine va_get (ci := 5) (v := .ref (q 1)) (C := RX5) (T := TX5) (N := 9) hx hb hts inlX5 hown hE.1 hP 0 rfl rfl 1 (by decide) (hts _ wB17) (fun _ h9 => h9) rfl dX5_from_19 ?_
  refine lv_iload_n hx hb dX5_from_22 rfl (lv_at hl 1 rfl) ?_
  refine va_aldq hx hb hE.1 hP 1 3 rfl rfl hi dX5_from_23 ?_
  rw [hn]
  refine lv_astore_n (lv' := [(2, .ref (t 0)), (0, .ref (q 0)), (1, .int a1)]) hx hb dX5_from_24 rfl hl (by decide) rfl (fun ls hl => ?_)
  refine lv_aload_n hx hb dX5_from_25 rfl (lv_at hl 0 rfl) ?_
  refine lv_ifnonnull (tgt := 34) hx hb dX5_from_26 (by decide) ?_
  unfold mX5_fromS at hf
  obtain ⟨r, hbec, hf⟩ := o_bs hf
  have hP9 : va_P D vwCl ((WX q cy u ++ Wkept t cy k) ++ rest) H := by rw [List.append_assoc]; exact hP
  have hD9 : va_D A ((WX q cy u ++ Wkept t cy k) ++ rest) := by rw [List.append_assoc]; exact hD
  have hP8 : va_P D vwCl (WKK (fun i => [q 3, q 4, q 5, q 6, q 7, q 8, q 9, t 0, t 1, t 2, t 3, t 4, t 5, t 6].getD i 0) cy (kJ u k) ++ (WXr q cy u ++ rest)) H := by have h9 := hP9.part (cx := WKK (fun i => [q 3, q 4, q 5, q 6, q 7, q 8, q 9, t 0, t 1, t 2, t 3, t 4, t 5, t 6].getD i 0) cy (kJ u k) ++ WXr q cy u) [3, 4, 5, 6, 7, 8, 9, 27, 28, 29, 30, 31, 32, 33, 0, 1, 2, 10, 11, 12, 13, 14, 15, 16, 17, 18, 19, 20, 21, 22, 23, 24, 25, 26] rfl; rw [List.append_assoc] at h9; exact h9
  have hD8 : va_D A (WKK (fun i => [q 3, q 4, q 5, q 6, q 7, q 8, q 9, t 0, t 1, t 2, t 3, t 4, t 5, t 6].getD i 0) cy (kJ u k) ++ (WXr q cy u ++ rest)) := by have h9 := hD9.part (cx := WKK (fun i => [q 3, q 4, q 5, q 6, q 7, q 8, q 9, t 0, t 1, t 2, t 3, t 4, t 5, t 6].getD i 0) cy (kJ u k) ++ WXr q cy u) [3, 4, 5, 6, 7, 8, 9, 27, 28, 29, 30, 31, 32, 33, 0, 1, 2, 10, 11, 12, 13, 14, 15, 16, 17, 18, 19, 20, 21, 22, 23, 24, 25, 26] rfl rfl; rw [List.append_assoc] at h9; exact h9
  refine lv_aload_n hx hb dX5_from_34 rfl (lv_at hl 1 rfl) ?_
  refine va_get (ci := 5) (v := .ref (q 3)) (C := RX5) (T := TX5) (N := 9) hx hb hts inlX5 hown hE.1 hP 0 rfl rfl 0 (by decide) (hts _ wB16) (fun _ h9 => h9) rfl dX5_from_35 ?_
  refine lv_aload_n hx hb dX5_from_38 rfl (lv_at hl 0 rfl) ?_
  refine k_gov (va_runV (As := [.ref (t 0)]) (rest := []) ⟨hx, hb, hml, hown, hts⟩ (zX3_become l D cy sa (fun i => [q 3, q 4, q 5, q 6, q 7, q 8, q 9, t 0, t 1, t 2, t 3, t 4, t 5, t 6].getD i 0) (WXr q cy u ++ rest) H.size (kJ u k) _ hbec) (cwV 1 hts (gB_V wB575 wB576 wB577 wB15 wB578) rfl rfl rfl (by decide +kernel) ⟨Nat.le_of_ble_eq_true rfl, Nat.le_of_ble_eq_true rfl⟩) ⟨kP.blind, k_recv hE hP8 (ci := 3) (q0 := 0) rfl rfl, k_pre hP8 hD8 hS hE hA⟩ rfl rfl hl.1 rfl (lv_room (Nat.le_of_ble_eq_true rfl)) dX5_from_39 ⟨Nat.le_of_ble_eq_true rfl, Nat.le_of_ble_eq_true rfl⟩) hD8 hS hA (fun H locs hP hD hS => ?_)
  obtain ⟨r1, r2, r3, r4, r5, r6, hr9, -⟩ := k_become hbec
  have hP : va_P D vwCl (WX q cy (kNow u r) ++ (Wkept t cy k ++ rest)) H := by have h9 := va_P.part (X := WKK (fun i => [q 3, q 4, q 5, q 6, q 7, q 8, q 9, t 0, t 1, t 2, t 3, t 4, t 5, t 6].getD i 0) cy r ++ WXr q cy u) (cx := WX q cy (kNow u r) ++ Wkept t cy k) (pl := rest) (by rw [List.append_assoc]; exact hP) [14, 15, 16, 0, 1, 2, 3, 4, 5, 6, 17, 18, 19, 20, 21, 22, 23, 24, 25, 26, 27, 28, 29, 30, 31, 32, 33, 7, 8, 9, 10, 11, 12, 13] (by subst hr9; rfl); rw [List.append_assoc] at h9; exact h9
  have hD : va_D A (WX q cy (kNow u r) ++ (Wkept t cy k ++ rest)) := by have h9 := va_D.part (X := WKK (fun i => [q 3, q 4, q 5, q 6, q 7, q 8, q 9, t 0, t 1, t 2, t 3, t 4, t 5, t 6].getD i 0) cy r ++ WXr q cy u) (cx := WX q cy (kNow u r) ++ Wkept t cy k) (pl := rest) (by rw [List.append_assoc]; exact hD) [14, 15, 16, 0, 1, 2, 3, 4, 5, 6, 17, 18, 19, 20, 21, 22, 23, 24, 25, 26, 27, 28, 29, 30, 31, 32, 33, 7, 8, 9, 10, 11, 12, 13] rfl (by subst hr9; rfl); rw [List.append_assoc] at h9; exact h9
  refine lv_aload_n hx hb dX5_from_42 rfl (lv_at hl 1 rfl) ?_
  obtain ⟨r43, h43r, hf⟩ := o_bs hf
  refine k_gov (va_runV (As := []) (rest := []) ⟨hx, hb, hml, hown, hts⟩ (zX5_dayChanged l D cy sa q (Wkept t cy k ++ rest) H.size (kNow u r) r43 h43r) (cwV 0 hts (gB_V wB120 wB121 wB122 wB2 wB123) rfl rfl rfl (by decide +kernel) ⟨Nat.le_of_ble_eq_true rfl, Nat.le_of_ble_eq_true rfl⟩) ⟨kP.blind, k_recv hE hP (ci := 5) (q0 := 0) rfl rfl, k_pre hP hD hS hE hA⟩ rfl rfl hl.1 rfl (lv_room (Nat.le_of_ble_eq_true rfl)) dX5_from_43 ⟨Nat.le_of_ble_eq_true rfl, Nat.le_of_ble_eq_true rfl⟩) hD hS hA (fun H locs hP hD hS => ?_)
  refine lv_iconst (v := 1) hx hb dX5_from_46 (by decide) ?_
  obtain rfl := o_ret hf
  exact k_iret hx hb hr hP hD hS (Nat.zero_le _) (Nat.zero_le _) hlocks dX5_from_47
abbrev rmX5_image_s : Room := { frames := 2, cells := 0, slots := 0, locals := 43 }
set_option maxRecDepth 100000 in
set_option maxHeartbeats 4000000 in
theorem zX5_image_s (l : Launch) (D : va_G) (cy : Nat → ClassId) (sa : Nat → Nat) (q : Nat → Nat) (rest : va_W) (sz : Nat) (u : KS) (t : Nat → Nat) (k : KS) (a1 : Int32) (res : KS) (h0 : ¬ a1 < 0) (h2 : a1 < 2) (hi : inb a1 2) (hn : gO u a1.toNatClampNeg = some (t 0)) (hf : mX3_become (kJ k u) = some res) : kMi l yX5_image (wsK yX5_image cX5_image 3 (some .int)) rmX5_image_s D cy sa (WX q cy u ++ (Wkept t cy k ++ rest)) sz [.ref (q 0), .int a1] 1 (WX q cy u ++ (Wkept t cy res ++ rest)) 0 0 := by
  refine kM_of (Qc := fun A => (kQi D A 1 (WX q cy u ++ (Wkept t cy res ++ rest)))) (cc := cX5_image) (maxL := 3) (ret := (some .int)) (by decide) (Nat.le_of_ble_eq_true rfl) ?_
  intro p e s m below meth c A hx hb hml hr hts hown hlocks hin hA hP hD hS hE hsz ls hl
  have hown : s.vm.findClass RX5 = some m.cls := hown
  obtain ⟨H, hH0⟩ : ∃ H, H = s.heap := ⟨_, rfl⟩
  obtain ⟨locs, hlocs0⟩ : ∃ locs : List Loc, locs = [] := ⟨_, rfl⟩
  have hP : va_P D vwCl (WX q cy u ++ (Wkept t cy k ++ rest)) H := by rw [hH0]; exact hP
  have hS : va_S A s.heap H locs := by rw [hH0, hlocs0]; exact hS
  have hl : lv_has ls 3 [(0, .ref (q 0)), (1, .int a1)] := hl
  suffices hgoal : W p l e rmX5_image_s s m ([.ref (q 0), .int a1] : List Value).toArray below meth c H locs 0 0 (MQ below (kQi D A 1 (WX q cy u ++ (Wkept t cy res ++ rest))) ([.ref (q 0), .int a1] : List Value).toArray s 0 0 A) (F0 m 0 ls []) by rw [hH0, hlocs0] at hgoal; exact hgoal
  clear hH0 hlocs0
  refine lv_iload_n hx hb dX5_image_0 rfl (lv_at hl 1 rfl) ?_
  refine lv_if_lt (tgt := 13) hx hb dX5_image_1 (by decide) (fun c1 => absurd c1 h0) (fun c1 => ?_)
  refine lv_iload_n hx hb dX5_image_4 rfl (lv_at hl 1 rfl) ?_
  refine lv_aload_n hx hb dX5_image_5 rfl (lv_at hl 0 rfl) ?_
  refine va_get (ci := 5) (v := .ref (q 1)) (C := RX5) (T := TX5) (N := 9) hx hb hts inlX5 hown hE.1 hP 0 rfl rfl 1 (by decide) (hts _ wB17) (fun _ h9 => h9) rfl dX5_image_6 ?_
  refine va_alen (v := 2) hx hb hE.1 hP 1 3 rfl rfl rfl dX5_image_9 ?_
  refine lv_icmp_lt (tgt := 18) hx hb dX5_image_10 (by decide) (fun c10 => ?_) (fun c10 => absurd h2 c10)
  refine lv_aload_n hx hb dX5_image_18 rfl (lv_at hl 0 rfl) ?_
  refine va_get (ci := 5) (v := .ref (q 1)) (C := RX5) (T := TX5) (N := 9) hx hb hts inlX5 hown hE.1 hP 0 rfl rfl 1 (by decide) (hts _ wB17) (fun _ h9 => h9) rfl dX5_image_19 ?_
  refine lv_iload_n hx hb dX5_image_22 rfl (lv_at hl 1 rfl) ?_
  refine va_aldq hx hb hE.1 hP 1 3 rfl rfl hi dX5_image_23 ?_
  rw [hn]
  refine lv_astore_n (lv' := [(2, .ref (t 0)), (0, .ref (q 0)), (1, .int a1)]) hx hb dX5_image_24 rfl hl (by decide) rfl (fun ls hl => ?_)
  refine lv_aload_n hx hb dX5_image_25 rfl (lv_at hl 0 rfl) ?_
  refine lv_ifnonnull (tgt := 44) hx hb dX5_image_26 (by decide) ?_
  have hbec := hf
  have hP9 : va_P D vwCl ((WX q cy u ++ Wkept t cy k) ++ rest) H := by rw [List.append_assoc]; exact hP
  have hD9 : va_D A ((WX q cy u ++ Wkept t cy k) ++ rest) := by rw [List.append_assoc]; exact hD
  have hP8 : va_P D vwCl (WKK (fun i => [t 0, t 1, t 2, t 3, t 4, t 5, t 6, q 3, q 4, q 5, q 6, q 7, q 8, q 9].getD i 0) cy (kJ k u) ++ (WXr q cy u ++ rest)) H := by have h9 := hP9.part (cx := WKK (fun i => [t 0, t 1, t 2, t 3, t 4, t 5, t 6, q 3, q 4, q 5, q 6, q 7, q 8, q 9].getD i 0) cy (kJ k u) ++ WXr q cy u) [27, 28, 29, 30, 31, 32, 33, 3, 4, 5, 6, 7, 8, 9, 0, 1, 2, 10, 11, 12, 13, 14, 15, 16, 17, 18, 19, 20, 21, 22, 23, 24, 25, 26] rfl; rw [List.append_assoc] at h9; exact h9
  have hD8 : va_D A (WKK (fun i => [t 0, t 1, t 2, t 3, t 4, t 5, t 6, q 3, q 4, q 5, q 6, q 7, q 8, q 9].getD i 0) cy (kJ k u) ++ (WXr q cy u ++ rest)) := by have h9 := hD9.part (cx := WKK (fun i => [t 0, t 1, t 2, t 3, t 4, t 5, t 6, q 3, q 4, q 5, q 6, q 7, q 8, q 9].getD i 0) cy (kJ k u) ++ WXr q cy u) [27, 28, 29, 30, 31, 32, 33, 3, 4, 5, 6, 7, 8, 9, 0, 1, 2, 10, 11, 12, 13, 14, 15, 16, 17, 18, 19, 20, 21, 22, 23, 24, 25, 26] rfl rfl; rw [List.append_assoc] at h9; exact h9
  refine lv_aload_n hx hb dX5_image_44 rfl (lv_at hl 0 rfl) ?_
  refine lv_aload_n hx hb dX5_image_45 rfl (lv_at hl 1 rfl) ?_
  refine va_get (ci := 5) (v := .ref (q 3)) (C := RX5) (T := TX5) (N := 9) hx hb hts inlX5 hown hE.1 hP 0 rfl rfl 0 (by decide) (hts _ wB16) (fun _ h9 => h9) rfl dX5_image_46 ?_
  refine k_gov (va_runV (As := [.ref (q 3)]) (rest := []) ⟨hx, hb, hml, hown, hts⟩ (zX3_become l D cy sa (fun i => [t 0, t 1, t 2, t 3, t 4, t 5, t 6, q 3, q 4, q 5, q 6, q 7, q 8, q 9].getD i 0) (WXr q cy u ++ rest) H.size (kJ k u) _ hbec) (cwV 1 hts (gB_V wB575 wB576 wB577 wB15 wB578) rfl rfl rfl (by decide +kernel) ⟨Nat.le_of_ble_eq_true rfl, Nat.le_of_ble_eq_true rfl⟩) ⟨kP.blind, k_recv hE hP8 (ci := 3) (q0 := 0) rfl rfl, k_pre hP8 hD8 hS hE hA⟩ rfl rfl hl.1 rfl (lv_room (Nat.le_of_ble_eq_true rfl)) dX5_image_49 ⟨Nat.le_of_ble_eq_true rfl, Nat.le_of_ble_eq_true rfl⟩) hD8 hS hA (fun H locs hP hD hS => ?_)
  obtain ⟨r1, r2, r3, r4, r5, r6, hr9, -⟩ := k_become hbec
  have hP : va_P D vwCl (WX q cy u ++ (Wkept t cy res ++ rest)) H := by have h9 := va_P.part (X := WKK (fun i => [t 0, t 1, t 2, t 3, t 4, t 5, t 6, q 3, q 4, q 5, q 6, q 7, q 8, q 9].getD i 0) cy res ++ WXr q cy u) (cx := WX q cy u ++ Wkept t cy res) (pl := rest) (by rw [List.append_assoc]; exact hP) [14, 15, 16, 7, 8, 9, 10, 11, 12, 13, 17, 18, 19, 20, 21, 22, 23, 24, 25, 26, 27, 28, 29, 30, 31, 32, 33, 0, 1, 2, 3, 4, 5, 6] (by subst hr9; rfl); rw [List.append_assoc] at h9; exact h9
  have hD : va_D A (WX q cy u ++ (Wkept t cy res ++ rest)) := by have h9 := va_D.part (X := WKK (fun i => [t 0, t 1, t 2, t 3, t 4, t 5, t 6, q 3, q 4, q 5, q 6, q 7, q 8, q 9].getD i 0) cy res ++ WXr q cy u) (cx := WX q cy u ++ Wkept t cy res) (pl := rest) (by rw [List.append_assoc]; exact hD) [14, 15, 16, 7, 8, 9, 10, 11, 12, 13, 17, 18, 19, 20, 21, 22, 23, 24, 25, 26, 27, 28, 29, 30, 31, 32, 33, 0, 1, 2, 3, 4, 5, 6] rfl (by subst hr9; rfl); rw [List.append_assoc] at h9; exact h9
  refine lv_iconst (v := 1) hx hb dX5_image_52 (by decide) ?_
  exact k_iret hx hb hr hP hD hS (Nat.zero_le _) (Nat.zero_le _) hlocks dX5_image_53
abbrev kQj (D : va_G) (A : Nat → Prop) (r : Int32) (w1 : (Nat → Nat) → va_W) : Array Value → State → Outcome → State → Prop := va_Qi (fun r1 (_ : Nat → Nat) => r1 = r) (fun t U => va_P D vwCl (w1 t) U.heap ∧ va_D A (w1 t)) A
abbrev kMj (l : Launch) (y : MethodName) (wsY : List Cond) (rm : Room) (D : va_G) (cy : Nat → ClassId) (sa : Nat → Nat) (ws : va_W) (sz : Nat) (av : List Value) (r : Int32) (w1 : (Nat → Nat) → va_W) (mc ms : Nat) : Prop := Met l y wsY rm (kP D cy sa ws sz av) (kQj D (va_A ws sz) r w1) mc ms (va_A ws sz)
section IMG
variable {p : Program} {l : Launch} {e : Env} {R : Room} {s : State} {m : MethodId} {args : Array Value} {below : List Frame} {meth : Method} {c : Code} {H : Heap} {locs : List Loc} {cells slots : Nat} {Q : State → Prop}
variable {cc : ByteArray} {pc mc ms : Nat} {ls : Array Slot} {D : va_G} {cy : Nat → ClassId} {sa : Nat → Nat} {A : Nat → Prop} {ws wc : va_W} {w1 : (Nat → Nat) → va_W} {b : Nat} {rest : List Value}
theorem k_iretJ (hx : p.tables.exec = Jvm.exec) (hb : c.code = cc) (hr : meth.sig.returnType = some .int) (t : Nat → Nat) (hP : va_P D vwCl (w1 t) H) (hD : va_D A (w1 t)) (hS : va_S A s.heap H locs) {v : Int32} (hc : cells ≤ mc) (hs : slots ≤ ms) (hlocks : meth.locks = false) (hdg : decode cc pc = .ok (.ireturn, 1)) : W p l e R s m args below meth c H locs cells slots (MQ below (kQj D A v w1) args s mc ms A) (F0 m pc ls [.int v]) := by
  refine W.widen (k := mc) (n := ms) hc hs ?_
  exact W.iret (v := v) hx hb hr (fun u hu hW => ⟨⟨v, t, rfl, rfl, by rw [hu]; exact hP, hD⟩, hS.F hu⟩) hS.2.2 hdg (hlocks := hlocks)
theorem k_gol2 {st0 : List Value} {a : Array Value} {r : Int32} (hr : va_Run p l e R s m args below meth c H locs cells slots mc ms (F0 m pc ls st0) rest (kQj D (va_A ws H.size) r w1 a) (va_A ws H.size)) (hD : va_D A ws) (hS : va_S A s.heap H locs) (hA : ∀ q : Nat, s.heap.size ≤ q → A q)
    (kk : ∀ (t : Nat → Nat) (H1 : Heap) (locs1 : List Loc), va_P D vwCl (w1 t) H1 → va_D A (w1 t) → va_S A s.heap H1 locs1 → W p l e R s m args below meth c H1 locs1 (cells + mc) (slots + ms) Q (F0 m (pc + 3) ls (.int r :: rest))) : W p l e R s m args below meth c H locs cells slots Q (F0 m pc ls st0) :=
  va_calli hr hS (fun q _ h => k_free hD hS hA q h) (k_free hD hS hA) (fun r1 t u H1 locs1 ht hvm hw hB hz1 hk1 hS1 => by
    cases hw
    exact kk t H1 locs1 (by rw [← ht]; exact hB.1) (hB.2.weaken (fun k q _ h => k_free hD hS hA q.1 h)) hS1)
theorem k_gon2 {st0 : List Value} {a : Array Value} {v : va_E} (hr : va_Run p l e R s m args below meth c H locs cells slots mc ms (F0 m pc ls st0) rest (kQc D (va_A [(b, v)] H.size) b w1 a) (va_A [(b, v)] H.size)) (hP : va_P D vwCl (ws ++ [(b, v)]) H) (hD : va_D A (ws ++ [(b, v)])) (hS : va_S A s.heap H locs) (hDc : va_D A [(b, v)]) (hA : ∀ q : Nat, s.heap.size ≤ q → A q)
    (kk : ∀ (t : Nat → Nat) (H1 : Heap) (locs1 : List Loc), t 0 = b → va_P D vwCl ((ws ++ w1 t)) H1 → va_D A (ws ++ w1 t) → va_S A s.heap H1 locs1 → W p l e R s m args below meth c H1 locs1 (cells + mc) (slots + ms) Q (F0 m (pc + 3) ls rest)) : W p l e R s m args below meth c H locs cells slots Q (F0 m pc ls st0) :=
  va_callv hr hS (fun q _ h => k_free hDc hS hA q h) (k_free hDc hS hA) (fun t u H1 locs1 ht hvm hw hB hz1 hk1 hS1 => by
    obtain ⟨hP1, hD1⟩ := hB
    rw [ht] at hP1
    have hP0 : va_P D vwCl ([(b, v)] ++ ws) H := by
      have h9 := va_P.swap (a := []) (b := ws) (c := [(b, v)]) hP
      exact h9
    have hD0 : va_D A ([(b, v)] ++ ws) := by
      have h9 := va_D.swap (a := []) (b := ws) (c := [(b, v)]) hD
      exact h9
    obtain ⟨hP2, hD2⟩ := va_joinQ (X := [(b, v)]) (cx := [(b, v)]) (wr := []) (w1 := w1 t) (pl := ws) hP0 hD0 [0] [] rfl rfl rfl (fun i h => by cases h) hk1 (k_free hDc hS hA) hP1 hD1
    have hP3 : va_P D vwCl (ws ++ w1 t) H1 := by
      have h9 := va_P.swap (a := []) (b := w1 t) (c := ws) hP2
      exact h9
    have hD3 : va_D A (ws ++ w1 t) := by
      have h9 := va_D.swap (a := []) (b := w1 t) (c := ws) hD2
      exact h9
    exact kk t H1 locs1 hw hP3 hD3 hS1)
end IMG
abbrev rmX5_image_n : Room := { frames := 2, cells := 7, slots := 194, locals := 43 }
set_option maxRecDepth 100000 in
set_option maxHeartbeats 4000000 in
theorem zX5_image_n (l : Launch) (D : va_G) (cy : Nat → ClassId) (sa : Nat → Nat) (q : Nat → Nat) (rest : va_W) (sz : Nat) (u : KS) (a1 : Int32) (res : KS) (h0 : ¬ a1 < 0) (h2 : a1 < 2) (hi : inb a1 2) (hn : gO u a1.toNatClampNeg = none) (hf : mX3_become (kJ kkept u) = some res) : kMj l yX5_image (wsK yX5_image cX5_image 3 (some .int)) rmX5_image_n D cy sa (WX q cy u ++ rest) sz [.ref (q 0), .int a1] 1 (fun t => WX q cy (sO u (va_up (gO u) a1.toNatClampNeg (some (t 0)))) ++ (Wkept t cy res ++ rest)) 7 194 := by
  refine kM_of (Qc := fun A => (kQj D A 1 (fun t => WX q cy (sO u (va_up (gO u) a1.toNatClampNeg (some (t 0)))) ++ (Wkept t cy res ++ rest)))) (cc := cX5_image) (maxL := 3) (ret := (some .int)) (by decide) (Nat.le_of_ble_eq_true rfl) ?_
  intro p e s m below meth c A hx hb hml hr hts hown hlocks hin hA hP hD hS hE hsz ls hl
  have hown : s.vm.findClass RX5 = some m.cls := hown
  obtain ⟨H, hH0⟩ : ∃ H, H = s.heap := ⟨_, rfl⟩
  obtain ⟨locs, hlocs0⟩ : ∃ locs : List Loc, locs = [] := ⟨_, rfl⟩
  have hP : va_P D vwCl (WX q cy u ++ rest) H := by rw [hH0]; exact hP
  have hS : va_S A s.heap H locs := by rw [hH0, hlocs0]; exact hS
  have hl : lv_has ls 3 [(0, .ref (q 0)), (1, .int a1)] := hl
  suffices hgoal : W p l e rmX5_image_n s m ([.ref (q 0), .int a1] : List Value).toArray below meth c H locs 0 0 (MQ below (kQj D A 1 (fun t => WX q cy (sO u (va_up (gO u) a1.toNatClampNeg (some (t 0)))) ++ (Wkept t cy res ++ rest))) ([.ref (q 0), .int a1] : List Value).toArray s 7 194 A) (F0 m 0 ls []) by rw [hH0, hlocs0] at hgoal; exact hgoal
  clear hH0 hlocs0
  refine lv_iload_n hx hb dX5_image_0 rfl (lv_at hl 1 rfl) ?_
  refine lv_if_lt (tgt := 13) hx hb dX5_image_1 (by decide) (fun c1 => absurd c1 h0) (fun c1 => ?_)
  refine lv_iload_n hx hb dX5_image_4 rfl (lv_at hl 1 rfl) ?_
  refine lv_aload_n hx hb dX5_image_5 rfl (lv_at hl 0 rfl) ?_
  refine va_get (ci := 5) (v := .ref (q 1)) (C := RX5) (T := TX5) (N := 9) hx hb hts inlX5 hown hE.1 hP 0 rfl rfl 1 (by decide) (hts _ wB17) (fun _ h9 => h9) rfl dX5_image_6 ?_
  refine va_alen (v := 2) hx hb hE.1 hP 1 3 rfl rfl rfl dX5_image_9 ?_
  refine lv_icmp_lt (tgt := 18) hx hb dX5_image_10 (by decide) (fun c10 => ?_) (fun c10 => absurd h2 c10)
  refine lv_aload_n hx hb dX5_image_18 rfl (lv_at hl 0 rfl) ?_
  refine va_get (ci := 5) (v := .ref (q 1)) (C := RX5) (T := TX5) (N := 9) hx hb hts inlX5 hown hE.1 hP 0 rfl rfl 1 (by decide) (hts _ wB17) (fun _ h9 => h9) rfl dX5_image_19 ?_
  refine lv_iload_n hx hb dX5_image_22 rfl (lv_at hl 1 rfl) ?_
  refine va_aldq hx hb hE.1 hP 1 3 rfl rfl hi dX5_image_23 ?_
  rw [hn]
  refine lv_astore_nN (lv' := [(2, .null), (0, .ref (q 0)), (1, .int a1)]) hx hb dX5_image_24 rfl hl (by decide) rfl (fun ls hl => ?_)
  refine lv_aload_nN hx hb dX5_image_25 rfl (lv_at hl 0 rfl) ?_
  refine lv_ifnonnullN hx hb dX5_image_26 ?_
  refine va_new (ci := 3) (fs := [.null, .int 0, .null, .null, .null, .null, .int 0, .null, .int 0]) (C := RX3) (T := TX3) (N := 9) hx hb hts inlX3 tyX3 tyX3_ok hown (hts _ wB13) (hts _ wB14) (hts _ wB15) hE.1 hP hD hS hA rfl (fun j hj => by rcases (show j = 0 ∨ j = 1 ∨ j = 2 ∨ j = 3 ∨ j = 4 ∨ j = 5 ∨ j = 6 ∨ j = 7 ∨ j = 8 by omega) with rfl | rfl | rfl | rfl | rfl | rfl | rfl | rfl | rfl <;> rfl) (Nat.le_of_ble_eq_true rfl) (Nat.le_of_ble_eq_true rfl) dX5_image_29 (fun b H hP hD hS => ?_)
  refine lv_dup hx hb dX5_image_32 rfl ?_
  have hPc : va_P D vwCl ([(b, .inr (3, [.null, .int 0, .null, .null, .null, .null, .int 0, .null, .int 0]))]) H := hP.by (fun k => (WX q cy u ++ rest).length + k) (fun k q hk => by rw [List.getElem?_append_right (Nat.le_add_right _ _), Nat.add_sub_cancel_left]; exact hk)
  have hDc : va_D A ([(b, .inr (3, [.null, .int 0, .null, .null, .null, .null, .int 0, .null, .int 0]))]) := hD.by (fun k => (WX q cy u ++ rest).length + k) (fun k q hk => by rw [List.getElem?_append_right (Nat.le_add_right _ _), Nat.add_sub_cancel_left]; exact hk) (fun i j _ _ e => Nat.add_left_cancel e)
  refine k_gon2 (va_runIN (As := []) (rest := [.ref b]) ⟨hx, hb, hml, hown, hts⟩ (zX3_init l D cy sa b H.size) ⟨va_cnB 0 hts (gB_K wB39) rfl rfl rfl (hE.2.1.1 _ (List.mem_of_getElem? (i := 0) rfl)) (hts _ wB15) (by decide +kernel) ⟨(Nat.le_of_ble_eq_true rfl), (Nat.le_of_ble_eq_true rfl)⟩, rfl, hts _ wB38⟩ ⟨kP.blind, k_pre hPc hDc hS hE hA⟩ rfl rfl hl.1 rfl (lv_room (Nat.le_of_ble_eq_true rfl)) dX5_image_33 ⟨(Nat.le_of_ble_eq_true rfl), (Nat.le_of_ble_eq_true rfl)⟩) hP hD hS hDc hA (fun t H locs hb0 hPn hDn hSn => ?_)
  clear hPc hDc hP hD hS
  subst hb0
  have hP := hPn
  have hD := hDn
  have hS := hSn
  clear hPn hDn hSn
  refine lv_astore_n (lv' := [(2, .ref (t 0)), (0, .ref (q 0)), (1, .int a1)]) hx hb dX5_image_36 rfl hl (by decide) rfl (fun ls hl => ?_)
  refine lv_aload_n hx hb dX5_image_37 rfl (lv_at hl 1 rfl) ?_
  have hP : va_P D vwCl (WX q cy u ++ (Wkept t cy kkept ++ rest)) H := by have h9 := va_P.swap (a := WX q cy u) (b := rest) (c := Wkept t cy kkept) hP; rw [List.append_assoc] at h9; exact h9
  have hD : va_D A (WX q cy u ++ (Wkept t cy kkept ++ rest)) := by have h9 := va_D.swap (a := WX q cy u) (b := rest) (c := Wkept t cy kkept) hD; rw [List.append_assoc] at h9; exact h9
  refine va_get (ci := 5) (v := .ref (q 1)) (C := RX5) (T := TX5) (N := 9) hx hb hts inlX5 hown hE.1 hP 0 rfl rfl 1 (by decide) (hts _ wB17) (fun _ h9 => h9) rfl dX5_image_38 ?_
  refine lv_iload_n hx hb dX5_image_41 rfl (lv_at hl 2 rfl) ?_
  refine lv_aload_n hx hb dX5_image_42 rfl (lv_at hl 0 rfl) ?_
  refine va_astq hx hb hE.1 hP hD hS 1 3 27 3 rfl rfl rfl rfl hi dX5_image_43 (fun H locs hP hD hS => ?_)
  have hP : va_P D vwCl (WX q cy (sO u (va_up (gO u) a1.toNatClampNeg (some (t 0)))) ++ (Wkept t cy kkept ++ rest)) H := hP
  have hD : va_D A (WX q cy (sO u (va_up (gO u) a1.toNatClampNeg (some (t 0)))) ++ (Wkept t cy kkept ++ rest)) := hD
  have hbec := hf
  have hP9 : va_P D vwCl ((WX q cy (sO u (va_up (gO u) a1.toNatClampNeg (some (t 0)))) ++ Wkept t cy kkept) ++ rest) H := by rw [List.append_assoc]; exact hP
  have hD9 : va_D A ((WX q cy (sO u (va_up (gO u) a1.toNatClampNeg (some (t 0)))) ++ Wkept t cy kkept) ++ rest) := by rw [List.append_assoc]; exact hD
  have hP8 : va_P D vwCl (WKK (fun i => [t 0, t 1, t 2, t 3, t 4, t 5, t 6, q 3, q 4, q 5, q 6, q 7, q 8, q 9].getD i 0) cy (kJ kkept u) ++ (WXr q cy (sO u (va_up (gO u) a1.toNatClampNeg (some (t 0)))) ++ rest)) H := by have h9 := hP9.part (cx := WKK (fun i => [t 0, t 1, t 2, t 3, t 4, t 5, t 6, q 3, q 4, q 5, q 6, q 7, q 8, q 9].getD i 0) cy (kJ kkept u) ++ WXr q cy (sO u (va_up (gO u) a1.toNatClampNeg (some (t 0))))) [27, 28, 29, 30, 31, 32, 33, 3, 4, 5, 6, 7, 8, 9, 0, 1, 2, 10, 11, 12, 13, 14, 15, 16, 17, 18, 19, 20, 21, 22, 23, 24, 25, 26] rfl; rw [List.append_assoc] at h9; exact h9
  have hD8 : va_D A (WKK (fun i => [t 0, t 1, t 2, t 3, t 4, t 5, t 6, q 3, q 4, q 5, q 6, q 7, q 8, q 9].getD i 0) cy (kJ kkept u) ++ (WXr q cy (sO u (va_up (gO u) a1.toNatClampNeg (some (t 0)))) ++ rest)) := by have h9 := hD9.part (cx := WKK (fun i => [t 0, t 1, t 2, t 3, t 4, t 5, t 6, q 3, q 4, q 5, q 6, q 7, q 8, q 9].getD i 0) cy (kJ kkept u) ++ WXr q cy (sO u (va_up (gO u) a1.toNatClampNeg (some (t 0))))) [27, 28, 29, 30, 31, 32, 33, 3, 4, 5, 6, 7, 8, 9, 0, 1, 2, 10, 11, 12, 13, 14, 15, 16, 17, 18, 19, 20, 21, 22, 23, 24, 25, 26] rfl rfl; rw [List.append_assoc] at h9; exact h9
  refine lv_aload_n hx hb dX5_image_44 rfl (lv_at hl 0 rfl) ?_
  refine lv_aload_n hx hb dX5_image_45 rfl (lv_at hl 1 rfl) ?_
  refine va_get (ci := 5) (v := .ref (q 3)) (C := RX5) (T := TX5) (N := 9) hx hb hts inlX5 hown hE.1 hP 0 rfl rfl 0 (by decide) (hts _ wB16) (fun _ h9 => h9) rfl dX5_image_46 ?_
  refine k_gov (va_runV (As := [.ref (q 3)]) (rest := []) ⟨hx, hb, hml, hown, hts⟩ (zX3_become l D cy sa (fun i => [t 0, t 1, t 2, t 3, t 4, t 5, t 6, q 3, q 4, q 5, q 6, q 7, q 8, q 9].getD i 0) (WXr q cy (sO u (va_up (gO u) a1.toNatClampNeg (some (t 0)))) ++ rest) H.size (kJ kkept u) _ hbec) (cwV 1 hts (gB_V wB575 wB576 wB577 wB15 wB578) rfl rfl rfl (by decide +kernel) ⟨Nat.le_of_ble_eq_true rfl, Nat.le_of_ble_eq_true rfl⟩) ⟨kP.blind, k_recv hE hP8 (ci := 3) (q0 := 0) rfl rfl, k_pre hP8 hD8 hS hE hA⟩ rfl rfl hl.1 rfl (lv_room (Nat.le_of_ble_eq_true rfl)) dX5_image_49 ⟨Nat.le_of_ble_eq_true rfl, Nat.le_of_ble_eq_true rfl⟩) hD8 hS hA (fun H locs hP hD hS => ?_)
  obtain ⟨r1, r2, r3, r4, r5, r6, hr9, -⟩ := k_become hbec
  have hP : va_P D vwCl (WX q cy (sO u (va_up (gO u) a1.toNatClampNeg (some (t 0)))) ++ (Wkept t cy res ++ rest)) H := by have h9 := va_P.part (X := WKK (fun i => [t 0, t 1, t 2, t 3, t 4, t 5, t 6, q 3, q 4, q 5, q 6, q 7, q 8, q 9].getD i 0) cy res ++ WXr q cy (sO u (va_up (gO u) a1.toNatClampNeg (some (t 0))))) (cx := WX q cy (sO u (va_up (gO u) a1.toNatClampNeg (some (t 0)))) ++ Wkept t cy res) (pl := rest) (by rw [List.append_assoc]; exact hP) [14, 15, 16, 7, 8, 9, 10, 11, 12, 13, 17, 18, 19, 20, 21, 22, 23, 24, 25, 26, 27, 28, 29, 30, 31, 32, 33, 0, 1, 2, 3, 4, 5, 6] (by subst hr9; rfl); rw [List.append_assoc] at h9; exact h9
  have hD : va_D A (WX q cy (sO u (va_up (gO u) a1.toNatClampNeg (some (t 0)))) ++ (Wkept t cy res ++ rest)) := by have h9 := va_D.part (X := WKK (fun i => [t 0, t 1, t 2, t 3, t 4, t 5, t 6, q 3, q 4, q 5, q 6, q 7, q 8, q 9].getD i 0) cy res ++ WXr q cy (sO u (va_up (gO u) a1.toNatClampNeg (some (t 0))))) (cx := WX q cy (sO u (va_up (gO u) a1.toNatClampNeg (some (t 0)))) ++ Wkept t cy res) (pl := rest) (by rw [List.append_assoc]; exact hD) [14, 15, 16, 7, 8, 9, 10, 11, 12, 13, 17, 18, 19, 20, 21, 22, 23, 24, 25, 26, 27, 28, 29, 30, 31, 32, 33, 0, 1, 2, 3, 4, 5, 6] rfl (by subst hr9; rfl); rw [List.append_assoc] at h9; exact h9
  refine lv_iconst (v := 1) hx hb dX5_image_52 (by decide) ?_
  exact k_iretJ hx hb hr t hP hD hS (Nat.le_of_ble_eq_true rfl) (Nat.le_of_ble_eq_true rfl) hlocks dX5_image_53
