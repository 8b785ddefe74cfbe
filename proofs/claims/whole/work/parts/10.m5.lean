noncomputable def mX6_passes_s113 (c2 : Int32) (c4 : Int32) (s113 : Int32 × KS) : Option ((KS) ⊕ (Int32 × KS)) :=
  if 4 ≤ s113.1 then
  (some (.inl s113.2))
  else
  (gd (inb c2 120) (if ((gR s113.2 6) (c2.toNatClampNeg)) = 4 then
  (gd (inb (((480 * c4) + (4 * c2)) + s113.1) 10080) (some (.inr ((s113.1 + 1), (sR s113.2 9 (upd (gR s113.2 9) ((((480 * c4) + (4 * c2)) + s113.1).toNatClampNeg) 0))))))
  else
  (some (.inl s113.2))))
noncomputable def mX6_passes_s96 (c2 : Int32) (s96 : Int32 × KS) : Option ((KS) ⊕ (Int32 × KS)) :=
  if 21 ≤ s96.1 then
  (some (.inl s96.2))
  else
  ((mX6_lays s96.2 s96.1 c2).bind fun r107 =>
  (lpF (mX6_passes_s113 c2 s96.1) (0, r107)).bind fun e113 =>
  some (.inr ((s96.1 + 1), e113)))
noncomputable def mX6_passes_s18  (s18 : Int32 × KS) : Option ((KS) ⊕ (Int32 × KS)) :=
  if (gI s18.2 5) ≤ s18.1 then
  (some (.inl s18.2))
  else
  (gd (inb s18.1 120) (if ((gR s18.2 6) (s18.1.toNatClampNeg)) = 4 then
  (gd (inb s18.1 121) (if 0 ≤ (((gR s18.2 8) (s18.1.toNatClampNeg)) - 1) then
  (if (((gR s18.2 8) (s18.1.toNatClampNeg)) - 1) ≤ 100 then
  (gd (inb (s18.1 + 1) 121) ((lpF (mX6_passes_s96 s18.1) (0, (sR s18.2 8 (upd (gR s18.2 8) ((s18.1 + 1).toNatClampNeg) (((gR s18.2 8) (s18.1.toNatClampNeg)) - 1))))).bind fun e96 =>
  some (.inr ((s18.1 + 1), e96))))
  else
  (gd (inb (s18.1 + 1) 121) ((lpF (mX6_passes_s96 s18.1) (0, (sR s18.2 8 (upd (gR s18.2 8) ((s18.1 + 1).toNatClampNeg) 100)))).bind fun e96 =>
  some (.inr ((s18.1 + 1), e96)))))
  else
  (gd (inb (s18.1 + 1) 121) ((lpF (mX6_passes_s96 s18.1) (0, (sR s18.2 8 (upd (gR s18.2 8) ((s18.1 + 1).toNatClampNeg) 0)))).bind fun e96 =>
  some (.inr ((s18.1 + 1), e96))))))
  else
  (gd (inb s18.1 121) (gd (inb s18.1 120) (if 0 ≤ ((((gR s18.2 8) (s18.1.toNatClampNeg)) + 2) + (((gR s18.2 7) (s18.1.toNatClampNeg)) / 3)) then
  (if ((((gR s18.2 8) (s18.1.toNatClampNeg)) + 2) + (((gR s18.2 7) (s18.1.toNatClampNeg)) / 3)) ≤ 100 then
  (gd (inb (s18.1 + 1) 121) ((lpF (mX6_passes_s96 s18.1) (0, (sR s18.2 8 (upd (gR s18.2 8) ((s18.1 + 1).toNatClampNeg) ((((gR s18.2 8) (s18.1.toNatClampNeg)) + 2) + (((gR s18.2 7) (s18.1.toNatClampNeg)) / 3)))))).bind fun e96 =>
  some (.inr ((s18.1 + 1), e96))))
  else
  (gd (inb (s18.1 + 1) 121) ((lpF (mX6_passes_s96 s18.1) (0, (sR s18.2 8 (upd (gR s18.2 8) ((s18.1 + 1).toNatClampNeg) 100)))).bind fun e96 =>
  some (.inr ((s18.1 + 1), e96)))))
  else
  (gd (inb (s18.1 + 1) 121) ((lpF (mX6_passes_s96 s18.1) (0, (sR s18.2 8 (upd (gR s18.2 8) ((s18.1 + 1).toNatClampNeg) 0)))).bind fun e96 =>
  some (.inr ((s18.1 + 1), e96)))))))))
noncomputable def mX6_passes_s168  (s168 : Int32 × KS) : Option ((KS) ⊕ (Int32 × KS)) :=
  if 4 ≤ s168.1 then
  (some (.inl s168.2))
  else
  ((mX6_stems s168.2 s168.1).bind fun r175 =>
  some (.inr ((s168.1 + 1), r175)))
noncomputable def mX6_passes (u : KS) (a1 : Int32) : Option (Int32 × KS) :=
  (mX6_reads u).bind fun r1 =>
  if r1.1 = 0 then
  (some (0, r1.2))
  else
  ((lpF mX6_passes_s18 (0, (sR r1.2 8 (upd (gR r1.2 8) ((0 : Int32).toNatClampNeg) a1)))).bind fun e18 =>
  (lpF mX6_passes_s168 (1, e18)).bind fun e168 =>
  some (1, e168))
abbrev rmX6_passes : Room := { frames := 4, cells := 0, slots := 0, locals := 92 }
set_option maxRecDepth 100000 in
set_option maxHeartbeats 4000000 in
theorem zX6_passes (l : Launch) (D : va_G) (cy : Nat → ClassId) (sa : Nat → Nat) (q : Nat → Nat) (rest : va_W) (sz : Nat) (u : KS) (a1 : Int32) (res : Int32 × KS) (hf : mX6_passes u a1 = some res) : kMi l yX6_passes (wsK yX6_passes cX6_passes 6 (some .boolean)) rmX6_passes D cy sa (WM q cy u ++ rest) sz [.ref (q 0), .int a1] res.1 (WM q cy res.2 ++ rest) 0 0 := by
  refine kM_of (Qc := fun A => kQi D A res.1 (WM q cy res.2 ++ rest)) (cc := cX6_passes) (maxL := 6) (ret := (some .boolean)) (by decide) (Nat.le_of_ble_eq_true rfl) ?_
  intro p e s m below meth c A hx hb hml hr hts hown hlocks hin hA hP hD hS hE hsz ls hl
  have hown : s.vm.findClass RX6 = some m.cls := hown
  obtain ⟨H, hH0⟩ : ∃ H, H = s.heap := ⟨_, rfl⟩
  obtain ⟨locs, hlocs0⟩ : ∃ locs : List Loc, locs = [] := ⟨_, rfl⟩
  have hP : va_P D vwCl (WM q cy u ++ rest) H := by rw [hH0]; exact hP
  have hS : va_S A s.heap H locs := by rw [hH0, hlocs0]; exact hS
  have hl : lv_has ls 6 [(0, .ref (q 0)), (1, .int a1)] := hl
  suffices hgoal : W p l e rmX6_passes s m ([.ref (q 0), .int a1] : List Value).toArray below meth c H locs 0 0 (MQ below (kQi D A res.1 (WM q cy res.2 ++ rest)) ([.ref (q 0), .int a1] : List Value).toArray s 0 0 A) (F0 m 0 ls []) by rw [hH0, hlocs0] at hgoal; exact hgoal
  clear hH0 hlocs0
  unfold mX6_passes at hf
  refine lv_aload_n hx hb dX6_passes_0 rfl (lv_at hl 0 rfl) ?_
  obtain ⟨r1, h1r, hf⟩ := o_bs hf
  refine k_goi (va_runV (As := []) (rest := []) ⟨hx, hb, hml, hown, hts⟩ (zX6_reads l D cy sa q rest H.size u  r1 h1r) (cwV 0 hts (gB_V wB284 wB285 wB286 wB5 wB287) rfl rfl rfl (by decide +kernel) ⟨Nat.le_of_ble_eq_true rfl, Nat.le_of_ble_eq_true rfl⟩) ⟨kP.blind, k_recv hE hP (ci := 6) (q0 := 0) rfl rfl, k_pre hP hD hS hE hA⟩ rfl rfl hl.1 rfl (lv_room (Nat.le_of_ble_eq_true rfl)) dX6_passes_1 ⟨Nat.zero_le _, Nat.zero_le _⟩) hD hS hA (fun H locs hP hD hS => ?_)
  refine lv_if_ne (tgt := 9) hx hb dX6_passes_4 (by decide) (fun c4 => ?_) (fun c4 => ?_)
  · have hf := o_in c4 hf
    refine lv_aload_n hx hb dX6_passes_9 rfl (lv_at hl 0 rfl) ?_
    refine va_get (ci := 6) (v := .ref (q 9)) (C := RX6) (T := TX6) (N := 26) hx hb hts inlX6 hown hE.1 hP 0 rfl rfl 13 (by decide) (hts _ wB92) (fun _ h9 => h9) rfl dX6_passes_10 ?_
    refine lv_iconst (v := 0) hx hb dX6_passes_13 (by decide) ?_
    refine lv_iload_n hx hb dX6_passes_14 rfl (lv_at hl 1 rfl) ?_
    refine va_iast (f := (gR r1.2 8)) hx hb hE.1 hP hD hS 9 0 rfl rfl (k_in (by decide)) dX6_passes_15 (fun H locs hP hD hS => ?_)
    have hP : va_P D vwCl (WM q cy (sR r1.2 8 (upd (gR r1.2 8) ((0 : Int32).toNatClampNeg) a1)) ++ rest) H := hP
    have hD : va_D A (WM q cy (sR r1.2 8 (upd (gR r1.2 8) ((0 : Int32).toNatClampNeg) a1)) ++ rest) := hD
    refine lv_iconst (v := 0) hx hb dX6_passes_16 (by decide) ?_
    refine lv_istore_n (lv' := [(2, .int 0), (0, .ref (q 0)), (1, .int a1)]) hx hb dX6_passes_17 rfl hl (by decide) rfl (fun ls hl => ?_)
    have L18 : ∀ (n18v : Nat) (s18 : Int32 × KS) (e18 : KS), lpO mX6_passes_s18 n18v s18 = some e18 → ∀ (H : Heap) (locs : List Loc) (ls : Array Slot), va_P D vwCl (WM q cy s18.2 ++ rest) H → va_D A (WM q cy s18.2 ++ rest) → va_S A s.heap H locs → lv_has ls 6 [(0, .ref (q 0)), (2, .int s18.1)] → (∀ (H : Heap) (locs : List Loc) (ls : Array Slot), va_P D vwCl (WM q cy e18 ++ rest) H → va_D A (WM q cy e18 ++ rest) → va_S A s.heap H locs → lv_has ls 6 [(0, .ref (q 0))] → W p l e rmX6_passes s m ([.ref (q 0), .int a1] : List Value).toArray below meth c H locs 0 0 (MQ below (kQi D A res.1 (WM q cy res.2 ++ rest)) ([.ref (q 0), .int a1] : List Value).toArray s 0 0 A) (F0 m 166 ls [])) → W p l e rmX6_passes s m ([.ref (q 0), .int a1] : List Value).toArray below meth c H locs 0 0 (MQ below (kQi D A res.1 (WM q cy res.2 ++ rest)) ([.ref (q 0), .int a1] : List Value).toArray s 0 0 A) (F0 m 18 ls []) := by
      intro n18v
      induction n18v with
      | zero => intro s18 e18 h; exact (lpO_z h).elim
      | succ n18v ih18 =>
        intro s18 e18 h18z H locs ls hP hD hS hl K18_0
        obtain ⟨x18, hf, h18z⟩ := lpO_s h18z
        unfold mX6_passes_s18 at hf
        refine lv_iload_n hx hb dX6_passes_18 rfl (lv_at hl 1 rfl) ?_
        refine lv_aload_n hx hb dX6_passes_19 rfl (lv_at hl 0 rfl) ?_
        refine va_get (ci := 6) (v := .int (gI s18.2 5)) (C := RX6) (T := TX6) (N := 26) hx hb hts inlX6 hown hE.1 hP 0 rfl rfl 14 (by decide) (hts _ wB289) (fun _ h9 => h9) rfl dX6_passes_20 ?_
        refine lv_icmp_ge (tgt := 166) hx hb dX6_passes_23 (by decide) (fun c23 => ?_) (fun c23 => ?_)
        · have hf := o_ip c23 hf
          obtain rfl := o_ret hf
          obtain rfl := lpK_l h18z
          exact K18_0 _ _ _ hP hD hS (lv_sub hl [0] rfl)
        · have hf := o_in c23 hf
          refine lv_aload_n hx hb dX6_passes_26 rfl (lv_at hl 0 rfl) ?_
          refine va_get (ci := 6) (v := .ref (q 7)) (C := RX6) (T := TX6) (N := 26) hx hb hts inlX6 hown hE.1 hP 0 rfl rfl 11 (by decide) (hts _ wB90) (fun _ h9 => h9) rfl dX6_passes_27 ?_
          refine lv_iload_n hx hb dX6_passes_30 rfl (lv_at hl 1 rfl) ?_
          obtain ⟨hg31, hf⟩ := gd_s hf
          refine va_iald (f := (gR s18.2 6)) hx hb hE.1 hP 7 0 rfl rfl hg31 dX6_passes_31 ?_
          refine lv_iconst (v := 4) hx hb dX6_passes_32 (by decide) ?_
          refine lv_icmp_ne (tgt := 47) hx hb dX6_passes_33 (by decide) (fun c33 => ?_) (fun c33 => ?_)
          · have hf := o_in c33 hf
            refine lv_aload_n hx hb dX6_passes_47 rfl (lv_at hl 0 rfl) ?_
            refine va_get (ci := 6) (v := .ref (q 9)) (C := RX6) (T := TX6) (N := 26) hx hb hts inlX6 hown hE.1 hP 0 rfl rfl 13 (by decide) (hts _ wB92) (fun _ h9 => h9) rfl dX6_passes_48 ?_
            refine lv_iload_n hx hb dX6_passes_51 rfl (lv_at hl 1 rfl) ?_
            obtain ⟨hg52, hf⟩ := gd_s hf
            refine va_iald (f := (gR s18.2 8)) hx hb hE.1 hP 9 0 rfl rfl hg52 dX6_passes_52 ?_
            refine lv_iconst (v := 2) hx hb dX6_passes_53 (by decide) ?_
            refine lv_iadd hx hb dX6_passes_54 ?_
            refine lv_aload_n hx hb dX6_passes_55 rfl (lv_at hl 0 rfl) ?_
            refine va_get (ci := 6) (v := .ref (q 8)) (C := RX6) (T := TX6) (N := 26) hx hb hts inlX6 hown hE.1 hP 0 rfl rfl 12 (by decide) (hts _ wB91) (fun _ h9 => h9) rfl dX6_passes_56 ?_
            refine lv_iload_n hx hb dX6_passes_59 rfl (lv_at hl 1 rfl) ?_
            obtain ⟨hg60, hf⟩ := gd_s hf
            refine va_iald (f := (gR s18.2 7)) hx hb hE.1 hP 8 0 rfl rfl hg60 dX6_passes_60 ?_
            refine lv_iconst (v := 3) hx hb dX6_passes_61 (by decide) ?_
            refine lv_idiv hx hb dX6_passes_62 (by decide) ?_
            refine lv_iadd hx hb dX6_passes_63 ?_
            refine lv_istore_n (lv' := [(3, .int ((((gR s18.2 8) (s18.1.toNatClampNeg)) + 2) + (((gR s18.2 7) (s18.1.toNatClampNeg)) / 3))), (0, .ref (q 0)), (2, .int s18.1)]) hx hb dX6_passes_64 rfl hl (by decide) rfl (fun ls hl => ?_)
            refine lv_aload_n hx hb dX6_passes_65 rfl (lv_at hl 1 rfl) ?_
            refine va_get (ci := 6) (v := .ref (q 9)) (C := RX6) (T := TX6) (N := 26) hx hb hts inlX6 hown hE.1 hP 0 rfl rfl 13 (by decide) (hts _ wB92) (fun _ h9 => h9) rfl dX6_passes_66 ?_
            refine lv_iload_n hx hb dX6_passes_69 rfl (lv_at hl 2 rfl) ?_
            refine lv_iconst (v := 1) hx hb dX6_passes_70 (by decide) ?_
            refine lv_iadd hx hb dX6_passes_71 ?_
            refine lv_iload_n hx hb dX6_passes_72 rfl (lv_at hl 0 rfl) ?_
            refine lv_if_ge (tgt := 80) hx hb dX6_passes_73 (by decide) (fun c73 => ?_) (fun c73 => ?_)
            · have hf := o_ip c73 hf
              refine lv_iload_n hx hb dX6_passes_80 rfl (lv_at hl 0 rfl) ?_
              refine lv_bipush (v := 100) hx hb dX6_passes_81 (by decide) ?_
              refine lv_icmp_le (tgt := 91) hx hb dX6_passes_83 (by decide) (fun c83 => ?_) (fun c83 => ?_)
              · have hf := o_ip c83 hf
                refine lv_iload_n hx hb dX6_passes_91 rfl (lv_at hl 0 rfl) ?_
                obtain ⟨hg92, hf⟩ := gd_s hf
                refine va_iast (f := (gR s18.2 8)) hx hb hE.1 hP hD hS 9 0 rfl rfl hg92 dX6_passes_92 (fun H locs hP hD hS => ?_)
                have hP : va_P D vwCl (WM q cy (sR s18.2 8 (upd (gR s18.2 8) ((s18.1 + 1).toNatClampNeg) ((((gR s18.2 8) (s18.1.toNatClampNeg)) + 2) + (((gR s18.2 7) (s18.1.toNatClampNeg)) / 3)))) ++ rest) H := hP
                have hD : va_D A (WM q cy (sR s18.2 8 (upd (gR s18.2 8) ((s18.1 + 1).toNatClampNeg) ((((gR s18.2 8) (s18.1.toNatClampNeg)) + 2) + (((gR s18.2 7) (s18.1.toNatClampNeg)) / 3)))) ++ rest) := hD
                refine lv_iconst (v := 0) hx hb dX6_passes_93 (by decide) ?_
                refine lv_istore (lv' := [(4, .int 0), (3, .int ((((gR s18.2 8) (s18.1.toNatClampNeg)) + 2) + (((gR s18.2 7) (s18.1.toNatClampNeg)) / 3))), (0, .ref (q 0)), (2, .int s18.1)]) hx hb dX6_passes_94 hl (by decide) rfl (fun ls hl => ?_)
                have L96 : ∀ (n96v : Nat) (s96 : Int32 × KS) (e96 : KS), lpO (mX6_passes_s96 s18.1) n96v s96 = some e96 → ∀ (H : Heap) (locs : List Loc) (ls : Array Slot), va_P D vwCl (WM q cy s96.2 ++ rest) H → va_D A (WM q cy s96.2 ++ rest) → va_S A s.heap H locs → lv_has ls 6 [(0, .ref (q 0)), (2, .int s18.1), (4, .int s96.1)] → (∀ (H : Heap) (locs : List Loc) (ls : Array Slot), va_P D vwCl (WM q cy e96 ++ rest) H → va_D A (WM q cy e96 ++ rest) → va_S A s.heap H locs → lv_has ls 6 [(0, .ref (q 0)), (2, .int s18.1)] → W p l e rmX6_passes s m ([.ref (q 0), .int a1] : List Value).toArray below meth c H locs 0 0 (MQ below (kQi D A res.1 (WM q cy res.2 ++ rest)) ([.ref (q 0), .int a1] : List Value).toArray s 0 0 A) (F0 m 160 ls [])) → W p l e rmX6_passes s m ([.ref (q 0), .int a1] : List Value).toArray below meth c H locs 0 0 (MQ below (kQi D A res.1 (WM q cy res.2 ++ rest)) ([.ref (q 0), .int a1] : List Value).toArray s 0 0 A) (F0 m 96 ls []) := by
                  intro n96v
                  induction n96v with
                  | zero => intro s96 e96 h; exact (lpO_z h).elim
                  | succ n96v ih96 =>
                    intro s96 e96 h96z H locs ls hP hD hS hl K96_0
                    obtain ⟨x96, hf, h96z⟩ := lpO_s h96z
                    unfold mX6_passes_s96 at hf
                    refine lv_iload hx hb dX6_passes_96 (lv_at hl 2 rfl) ?_
                    refine lv_bipush (v := 21) hx hb dX6_passes_98 (by decide) ?_
                    refine lv_icmp_ge (tgt := 160) hx hb dX6_passes_100 (by decide) (fun c100 => ?_) (fun c100 => ?_)
                    · have hf := o_ip c100 hf
                      obtain rfl := o_ret hf
                      obtain rfl := lpK_l h96z
                      exact K96_0 _ _ _ hP hD hS (lv_sub hl [0, 1] rfl)
                    · have hf := o_in c100 hf
                      refine lv_aload_n hx hb dX6_passes_103 rfl (lv_at hl 0 rfl) ?_
                      refine lv_iload hx hb dX6_passes_104 (lv_at hl 2 rfl) ?_
                      refine lv_iload_n hx hb dX6_passes_106 rfl (lv_at hl 1 rfl) ?_
                      obtain ⟨r107, h107r, hf⟩ := o_bs hf
                      refine k_gov (va_runV (As := [.int s96.1, .int s18.1]) (rest := []) ⟨hx, hb, hml, hown, hts⟩ (zX6_lays l D cy sa q rest H.size s96.2 s96.1 s18.1 r107 h107r) (cwV 2 hts (gB_V wB390 wB391 wB392 wB5 wB393) rfl rfl rfl (by decide +kernel) ⟨Nat.le_of_ble_eq_true rfl, Nat.le_of_ble_eq_true rfl⟩) ⟨kP.blind, k_recv hE hP (ci := 6) (q0 := 0) rfl rfl, k_pre hP hD hS hE hA⟩ rfl rfl hl.1 rfl (lv_room (Nat.le_of_ble_eq_true rfl)) dX6_passes_107 ⟨Nat.zero_le _, Nat.zero_le _⟩) hD hS hA (fun H locs hP hD hS => ?_)
                      refine lv_iconst (v := 0) hx hb dX6_passes_110 (by decide) ?_
                      refine lv_istore (lv' := [(5, .int 0), (0, .ref (q 0)), (2, .int s18.1), (4, .int s96.1)]) hx hb dX6_passes_111 hl (by decide) rfl (fun ls hl => ?_)
                      have L113 : ∀ (n113v : Nat) (s113 : Int32 × KS) (e113 : KS), lpO (mX6_passes_s113 s18.1 s96.1) n113v s113 = some e113 → ∀ (H : Heap) (locs : List Loc) (ls : Array Slot), va_P D vwCl (WM q cy s113.2 ++ rest) H → va_D A (WM q cy s113.2 ++ rest) → va_S A s.heap H locs → lv_has ls 6 [(0, .ref (q 0)), (2, .int s18.1), (4, .int s96.1), (5, .int s113.1)] → (∀ (H : Heap) (locs : List Loc) (ls : Array Slot), va_P D vwCl (WM q cy e113 ++ rest) H → va_D A (WM q cy e113 ++ rest) → va_S A s.heap H locs → lv_has ls 6 [(0, .ref (q 0)), (2, .int s18.1), (4, .int s96.1)] → W p l e rmX6_passes s m ([.ref (q 0), .int a1] : List Value).toArray below meth c H locs 0 0 (MQ below (kQi D A res.1 (WM q cy res.2 ++ rest)) ([.ref (q 0), .int a1] : List Value).toArray s 0 0 A) (F0 m 154 ls [])) → W p l e rmX6_passes s m ([.ref (q 0), .int a1] : List Value).toArray below meth c H locs 0 0 (MQ below (kQi D A res.1 (WM q cy res.2 ++ rest)) ([.ref (q 0), .int a1] : List Value).toArray s 0 0 A) (F0 m 113 ls []) := by
                        intro n113v
                        induction n113v with
                        | zero => intro s113 e113 h; exact (lpO_z h).elim
                        | succ n113v ih113 =>
                          intro s113 e113 h113z H locs ls hP hD hS hl K113_0
                          obtain ⟨x113, hf, h113z⟩ := lpO_s h113z
                          unfold mX6_passes_s113 at hf
                          refine lv_iload hx hb dX6_passes_113 (lv_at hl 3 rfl) ?_
                          refine lv_iconst (v := 4) hx hb dX6_passes_115 (by decide) ?_
                          refine lv_icmp_ge (tgt := 154) hx hb dX6_passes_116 (by decide) (fun c116 => ?_) (fun c116 => ?_)
                          · have hf := o_ip c116 hf
                            obtain rfl := o_ret hf
                            obtain rfl := lpK_l h113z
                            exact K113_0 _ _ _ hP hD hS (lv_sub hl [0, 1, 2] rfl)
                          · have hf := o_in c116 hf
                            refine lv_aload_n hx hb dX6_passes_119 rfl (lv_at hl 0 rfl) ?_
                            refine va_get (ci := 6) (v := .ref (q 7)) (C := RX6) (T := TX6) (N := 26) hx hb hts inlX6 hown hE.1 hP 0 rfl rfl 11 (by decide) (hts _ wB90) (fun _ h9 => h9) rfl dX6_passes_120 ?_
                            refine lv_iload_n hx hb dX6_passes_123 rfl (lv_at hl 1 rfl) ?_
                            obtain ⟨hg124, hf⟩ := gd_s hf
                            refine va_iald (f := (gR s113.2 6)) hx hb hE.1 hP 7 0 rfl rfl hg124 dX6_passes_124 ?_
                            refine lv_iconst (v := 4) hx hb dX6_passes_125 (by decide) ?_
                            refine lv_icmp_ne (tgt := 154) hx hb dX6_passes_126 (by decide) (fun c126 => ?_) (fun c126 => ?_)
                            · have hf := o_in c126 hf
                              obtain rfl := o_ret hf
                              obtain rfl := lpK_l h113z
                              exact K113_0 _ _ _ hP hD hS (lv_sub hl [0, 1, 2] rfl)
                            · have hf := o_ip c126 hf
                              refine lv_aload_n hx hb dX6_passes_129 rfl (lv_at hl 0 rfl) ?_
                              refine va_get (ci := 6) (v := .ref (q 10)) (C := RX6) (T := TX6) (N := 26) hx hb hts inlX6 hown hE.1 hP 0 rfl rfl 15 (by decide) (hts _ wB93) (fun _ h9 => h9) rfl dX6_passes_130 ?_
                              refine lv_sipush (v := 480) hx hb dX6_passes_133 (by decide) ?_
                              refine lv_iload hx hb dX6_passes_136 (lv_at hl 2 rfl) ?_
                              refine lv_imul hx hb dX6_passes_138 ?_
                              refine lv_iconst (v := 4) hx hb dX6_passes_139 (by decide) ?_
                              refine lv_iload_n hx hb dX6_passes_140 rfl (lv_at hl 1 rfl) ?_
                              refine lv_imul hx hb dX6_passes_141 ?_
                              refine lv_iadd hx hb dX6_passes_142 ?_
                              refine lv_iload hx hb dX6_passes_143 (lv_at hl 3 rfl) ?_
                              refine lv_iadd hx hb dX6_passes_145 ?_
                              refine lv_iconst (v := 0) hx hb dX6_passes_146 (by decide) ?_
                              obtain ⟨hg147, hf⟩ := gd_s hf
                              refine va_iast (f := (gR s113.2 9)) hx hb hE.1 hP hD hS 10 0 rfl rfl hg147 dX6_passes_147 (fun H locs hP hD hS => ?_)
                              have hP : va_P D vwCl (WM q cy (sR s113.2 9 (upd (gR s113.2 9) ((((480 * s96.1) + (4 * s18.1)) + s113.1).toNatClampNeg) 0)) ++ rest) H := hP
                              have hD : va_D A (WM q cy (sR s113.2 9 (upd (gR s113.2 9) ((((480 * s96.1) + (4 * s18.1)) + s113.1).toNatClampNeg) 0)) ++ rest) := hD
                              refine lv_iinc (v := (s113.1 + 1)) (lv' := [(5, .int (s113.1 + 1)), (0, .ref (q 0)), (2, .int s18.1), (4, .int s96.1)]) hx hb dX6_passes_148 hl (k := 3) rfl (by rfl) (by decide) rfl (fun ls hl => ?_)
                              refine lv_goto (tgt := 113) hx hb dX6_passes_151 (by decide) ?_
                              obtain rfl := o_ret hf
                              exact ih113 _ _ (lpK_r h113z) _ _ _ hP hD hS (lv_sub hl [1, 2, 3, 0] rfl) K113_0
                      obtain ⟨e113, h113q, hf⟩ := o_bs hf
                      obtain ⟨n113v, h113q⟩ := lpF_ex h113q
                      refine L113 n113v _ e113 h113q _ _ _ hP hD hS (lv_sub hl [1, 2, 3, 0] rfl) ?_
                      intro H locs ls hP hD hS hl
                      refine lv_iinc (v := (s96.1 + 1)) (lv' := [(4, .int (s96.1 + 1)), (0, .ref (q 0)), (2, .int s18.1)]) hx hb dX6_passes_154 hl (k := 2) rfl (by rfl) (by decide) rfl (fun ls hl => ?_)
                      refine lv_goto (tgt := 96) hx hb dX6_passes_157 (by decide) ?_
                      obtain rfl := o_ret hf
                      exact ih96 _ _ (lpK_r h96z) _ _ _ hP hD hS (lv_sub hl [1, 2, 0] rfl) K96_0
                obtain ⟨e96, h96q, hf⟩ := o_bs hf
                obtain ⟨n96v, h96q⟩ := lpF_ex h96q
                refine L96 n96v _ e96 h96q _ _ _ hP hD hS (lv_sub hl [2, 3, 0] rfl) ?_
                intro H locs ls hP hD hS hl
                refine lv_iinc (v := (s18.1 + 1)) (lv' := [(2, .int (s18.1 + 1)), (0, .ref (q 0))]) hx hb dX6_passes_160 hl (k := 1) rfl (by rfl) (by decide) rfl (fun ls hl => ?_)
                refine lv_goto (tgt := 18) hx hb dX6_passes_163 (by decide) ?_
                obtain rfl := o_ret hf
                exact ih18 _ _ (lpK_r h18z) _ _ _ hP hD hS (lv_sub hl [1, 0] rfl) K18_0
              · have hf := o_in c83 hf
                refine lv_bipush (v := 100) hx hb dX6_passes_86 (by decide) ?_
                refine lv_goto (tgt := 92) hx hb dX6_passes_88 (by decide) ?_
                obtain ⟨hg92, hf⟩ := gd_s hf
                refine va_iast (f := (gR s18.2 8)) hx hb hE.1 hP hD hS 9 0 rfl rfl hg92 dX6_passes_92 (fun H locs hP hD hS => ?_)
                have hP : va_P D vwCl (WM q cy (sR s18.2 8 (upd (gR s18.2 8) ((s18.1 + 1).toNatClampNeg) 100)) ++ rest) H := hP
                have hD : va_D A (WM q cy (sR s18.2 8 (upd (gR s18.2 8) ((s18.1 + 1).toNatClampNeg) 100)) ++ rest) := hD
                refine lv_iconst (v := 0) hx hb dX6_passes_93 (by decide) ?_
                refine lv_istore (lv' := [(4, .int 0), (3, .int ((((gR s18.2 8) (s18.1.toNatClampNeg)) + 2) + (((gR s18.2 7) (s18.1.toNatClampNeg)) / 3))), (0, .ref (q 0)), (2, .int s18.1)]) hx hb dX6_passes_94 hl (by decide) rfl (fun ls hl => ?_)
                have L96 : ∀ (n96v : Nat) (s96 : Int32 × KS) (e96 : KS), lpO (mX6_passes_s96 s18.1) n96v s96 = some e96 → ∀ (H : Heap) (locs : List Loc) (ls : Array Slot), va_P D vwCl (WM q cy s96.2 ++ rest) H → va_D A (WM q cy s96.2 ++ rest) → va_S A s.heap H locs → lv_has ls 6 [(0, .ref (q 0)), (2, .int s18.1), (4, .int s96.1)] → (∀ (H : Heap) (locs : List Loc) (ls : Array Slot), va_P D vwCl (WM q cy e96 ++ rest) H → va_D A (WM q cy e96 ++ rest) → va_S A s.heap H locs → lv_has ls 6 [(0, .ref (q 0)), (2, .int s18.1)] → W p l e rmX6_passes s m ([.ref (q 0), .int a1] : List Value).toArray below meth c H locs 0 0 (MQ below (kQi D A res.1 (WM q cy res.2 ++ rest)) ([.ref (q 0), .int a1] : List Value).toArray s 0 0 A) (F0 m 160 ls [])) → W p l e rmX6_passes s m ([.ref (q 0), .int a1] : List Value).toArray below meth c H locs 0 0 (MQ below (kQi D A res.1 (WM q cy res.2 ++ rest)) ([.ref (q 0), .int a1] : List Value).toArray s 0 0 A) (F0 m 96 ls []) := by
                  intro n96v
                  induction n96v with
                  | zero => intro s96 e96 h; exact (lpO_z h).elim
                  | succ n96v ih96 =>
                    intro s96 e96 h96z H locs ls hP hD hS hl K96_0
                    obtain ⟨x96, hf, h96z⟩ := lpO_s h96z
                    unfold mX6_passes_s96 at hf
                    refine lv_iload hx hb dX6_passes_96 (lv_at hl 2 rfl) ?_
                    refine lv_bipush (v := 21) hx hb dX6_passes_98 (by decide) ?_
                    refine lv_icmp_ge (tgt := 160) hx hb dX6_passes_100 (by decide) (fun c100 => ?_) (fun c100 => ?_)
                    · have hf := o_ip c100 hf
                      obtain rfl := o_ret hf
                      obtain rfl := lpK_l h96z
                      exact K96_0 _ _ _ hP hD hS (lv_sub hl [0, 1] rfl)
                    · have hf := o_in c100 hf
                      refine lv_aload_n hx hb dX6_passes_103 rfl (lv_at hl 0 rfl) ?_
                      refine lv_iload hx hb dX6_passes_104 (lv_at hl 2 rfl) ?_
                      refine lv_iload_n hx hb dX6_passes_106 rfl (lv_at hl 1 rfl) ?_
                      obtain ⟨r107, h107r, hf⟩ := o_bs hf
                      refine k_gov (va_runV (As := [.int s96.1, .int s18.1]) (rest := []) ⟨hx, hb, hml, hown, hts⟩ (zX6_lays l D cy sa q rest H.size s96.2 s96.1 s18.1 r107 h107r) (cwV 2 hts (gB_V wB390 wB391 wB392 wB5 wB393) rfl rfl rfl (by decide +kernel) ⟨Nat.le_of_ble_eq_true rfl, Nat.le_of_ble_eq_true rfl⟩) ⟨kP.blind, k_recv hE hP (ci := 6) (q0 := 0) rfl rfl, k_pre hP hD hS hE hA⟩ rfl rfl hl.1 rfl (lv_room (Nat.le_of_ble_eq_true rfl)) dX6_passes_107 ⟨Nat.zero_le _, Nat.zero_le _⟩) hD hS hA (fun H locs hP hD hS => ?_)
                      refine lv_iconst (v := 0) hx hb dX6_passes_110 (by decide) ?_
                      refine lv_istore (lv' := [(5, .int 0), (0, .ref (q 0)), (2, .int s18.1), (4, .int s96.1)]) hx hb dX6_passes_111 hl (by decide) rfl (fun ls hl => ?_)
                      have L113 : ∀ (n113v : Nat) (s113 : Int32 × KS) (e113 : KS), lpO (mX6_passes_s113 s18.1 s96.1) n113v s113 = some e113 → ∀ (H : Heap) (locs : List Loc) (ls : Array Slot), va_P D vwCl (WM q cy s113.2 ++ rest) H → va_D A (WM q cy s113.2 ++ rest) → va_S A s.heap H locs → lv_has ls 6 [(0, .ref (q 0)), (2, .int s18.1), (4, .int s96.1), (5, .int s113.1)] → (∀ (H : Heap) (locs : List Loc) (ls : Array Slot), va_P D vwCl (WM q cy e113 ++ rest) H → va_D A (WM q cy e113 ++ rest) → va_S A s.heap H locs → lv_has ls 6 [(0, .ref (q 0)), (2, .int s18.1), (4, .int s96.1)] → W p l e rmX6_passes s m ([.ref (q 0), .int a1] : List Value).toArray below meth c H locs 0 0 (MQ below (kQi D A res.1 (WM q cy res.2 ++ rest)) ([.ref (q 0), .int a1] : List Value).toArray s 0 0 A) (F0 m 154 ls [])) → W p l e rmX6_passes s m ([.ref (q 0), .int a1] : List Value).toArray below meth c H locs 0 0 (MQ below (kQi D A res.1 (WM q cy res.2 ++ rest)) ([.ref (q 0), .int a1] : List Value).toArray s 0 0 A) (F0 m 113 ls []) := by
                        intro n113v
                        induction n113v with
                        | zero => intro s113 e113 h; exact (lpO_z h).elim
                        | succ n113v ih113 =>
                          intro s113 e113 h113z H locs ls hP hD hS hl K113_0
                          obtain ⟨x113, hf, h113z⟩ := lpO_s h113z
                          unfold mX6_passes_s113 at hf
                          refine lv_iload hx hb dX6_passes_113 (lv_at hl 3 rfl) ?_
                          refine lv_iconst (v := 4) hx hb dX6_passes_115 (by decide) ?_
                          refine lv_icmp_ge (tgt := 154) hx hb dX6_passes_116 (by decide) (fun c116 => ?_) (fun c116 => ?_)
                          · have hf := o_ip c116 hf
                            obtain rfl := o_ret hf
                            obtain rfl := lpK_l h113z
                            exact K113_0 _ _ _ hP hD hS (lv_sub hl [0, 1, 2] rfl)
                          · have hf := o_in c116 hf
                            refine lv_aload_n hx hb dX6_passes_119 rfl (lv_at hl 0 rfl) ?_
                            refine va_get (ci := 6) (v := .ref (q 7)) (C := RX6) (T := TX6) (N := 26) hx hb hts inlX6 hown hE.1 hP 0 rfl rfl 11 (by decide) (hts _ wB90) (fun _ h9 => h9) rfl dX6_passes_120 ?_
                            refine lv_iload_n hx hb dX6_passes_123 rfl (lv_at hl 1 rfl) ?_
                            obtain ⟨hg124, hf⟩ := gd_s hf
                            refine va_iald (f := (gR s113.2 6)) hx hb hE.1 hP 7 0 rfl rfl hg124 dX6_passes_124 ?_
                            refine lv_iconst (v := 4) hx hb dX6_passes_125 (by decide) ?_
                            refine lv_icmp_ne (tgt := 154) hx hb dX6_passes_126 (by decide) (fun c126 => ?_) (fun c126 => ?_)
                            · have hf := o_in c126 hf
                              obtain rfl := o_ret hf
                              obtain rfl := lpK_l h113z
                              exact K113_0 _ _ _ hP hD hS (lv_sub hl [0, 1, 2] rfl)
                            · have hf := o_ip c126 hf
                              refine lv_aload_n hx hb dX6_passes_129 rfl (lv_at hl 0 rfl) ?_
                              refine va_get (ci := 6) (v := .ref (q 10)) (C := RX6) (T := TX6) (N := 26) hx hb hts inlX6 hown hE.1 hP 0 rfl rfl 15 (by decide) (hts _ wB93) (fun _ h9 => h9) rfl dX6_passes_130 ?_
                              refine lv_sipush (v := 480) hx hb dX6_passes_133 (by decide) ?_
                              refine lv_iload hx hb dX6_passes_136 (lv_at hl 2 rfl) ?_
                              refine lv_imul hx hb dX6_passes_138 ?_
                              refine lv_iconst (v := 4) hx hb dX6_passes_139 (by decide) ?_
                              refine lv_iload_n hx hb dX6_passes_140 rfl (lv_at hl 1 rfl) ?_
                              refine lv_imul hx hb dX6_passes_141 ?_
                              refine lv_iadd hx hb dX6_passes_142 ?_
                              refine lv_iload hx hb dX6_passes_143 (lv_at hl 3 rfl) ?_
                              refine lv_iadd hx hb dX6_passes_145 ?_
                              refine lv_iconst (v := 0) hx hb dX6_passes_146 (by decide) ?_
                              obtain ⟨hg147, hf⟩ := gd_s hf
                              refine va_iast (f := (gR s113.2 9)) hx hb hE.1 hP hD hS 10 0 rfl rfl hg147 dX6_passes_147 (fun H locs hP hD hS => ?_)
                              have hP : va_P D vwCl (WM q cy (sR s113.2 9 (upd (gR s113.2 9) ((((480 * s96.1) + (4 * s18.1)) + s113.1).toNatClampNeg) 0)) ++ rest) H := hP
                              have hD : va_D A (WM q cy (sR s113.2 9 (upd (gR s113.2 9) ((((480 * s96.1) + (4 * s18.1)) + s113.1).toNatClampNeg) 0)) ++ rest) := hD
                              refine lv_iinc (v := (s113.1 + 1)) (lv' := [(5, .int (s113.1 + 1)), (0, .ref (q 0)), (2, .int s18.1), (4, .int s96.1)]) hx hb dX6_passes_148 hl (k := 3) rfl (by rfl) (by decide) rfl (fun ls hl => ?_)
                              refine lv_goto (tgt := 113) hx hb dX6_passes_151 (by decide) ?_
                              obtain rfl := o_ret hf
                              exact ih113 _ _ (lpK_r h113z) _ _ _ hP hD hS (lv_sub hl [1, 2, 3, 0] rfl) K113_0
                      obtain ⟨e113, h113q, hf⟩ := o_bs hf
                      obtain ⟨n113v, h113q⟩ := lpF_ex h113q
                      refine L113 n113v _ e113 h113q _ _ _ hP hD hS (lv_sub hl [1, 2, 3, 0] rfl) ?_
                      intro H locs ls hP hD hS hl
                      refine lv_iinc (v := (s96.1 + 1)) (lv' := [(4, .int (s96.1 + 1)), (0, .ref (q 0)), (2, .int s18.1)]) hx hb dX6_passes_154 hl (k := 2) rfl (by rfl) (by decide) rfl (fun ls hl => ?_)
                      refine lv_goto (tgt := 96) hx hb dX6_passes_157 (by decide) ?_
                      obtain rfl := o_ret hf
                      exact ih96 _ _ (lpK_r h96z) _ _ _ hP hD hS (lv_sub hl [1, 2, 0] rfl) K96_0
                obtain ⟨e96, h96q, hf⟩ := o_bs hf
                obtain ⟨n96v, h96q⟩ := lpF_ex h96q
                refine L96 n96v _ e96 h96q _ _ _ hP hD hS (lv_sub hl [2, 3, 0] rfl) ?_
                intro H locs ls hP hD hS hl
                refine lv_iinc (v := (s18.1 + 1)) (lv' := [(2, .int (s18.1 + 1)), (0, .ref (q 0))]) hx hb dX6_passes_160 hl (k := 1) rfl (by rfl) (by decide) rfl (fun ls hl => ?_)
                refine lv_goto (tgt := 18) hx hb dX6_passes_163 (by decide) ?_
                obtain rfl := o_ret hf
                exact ih18 _ _ (lpK_r h18z) _ _ _ hP hD hS (lv_sub hl [1, 0] rfl) K18_0
            · have hf := o_in c73 hf
              refine lv_iconst (v := 0) hx hb dX6_passes_76 (by decide) ?_
              refine lv_goto (tgt := 92) hx hb dX6_passes_77 (by decide) ?_
              obtain ⟨hg92, hf⟩ := gd_s hf
              refine va_iast (f := (gR s18.2 8)) hx hb hE.1 hP hD hS 9 0 rfl rfl hg92 dX6_passes_92 (fun H locs hP hD hS => ?_)
              have hP : va_P D vwCl (WM q cy (sR s18.2 8 (upd (gR s18.2 8) ((s18.1 + 1).toNatClampNeg) 0)) ++ rest) H := hP
              have hD : va_D A (WM q cy (sR s18.2 8 (upd (gR s18.2 8) ((s18.1 + 1).toNatClampNeg) 0)) ++ rest) := hD
              refine lv_iconst (v := 0) hx hb dX6_passes_93 (by decide) ?_
              refine lv_istore (lv' := [(4, .int 0), (3, .int ((((gR s18.2 8) (s18.1.toNatClampNeg)) + 2) + (((gR s18.2 7) (s18.1.toNatClampNeg)) / 3))), (0, .ref (q 0)), (2, .int s18.1)]) hx hb dX6_passes_94 hl (by decide) rfl (fun ls hl => ?_)
              have L96 : ∀ (n96v : Nat) (s96 : Int32 × KS) (e96 : KS), lpO (mX6_passes_s96 s18.1) n96v s96 = some e96 → ∀ (H : Heap) (locs : List Loc) (ls : Array Slot), va_P D vwCl (WM q cy s96.2 ++ rest) H → va_D A (WM q cy s96.2 ++ rest) → va_S A s.heap H locs → lv_has ls 6 [(0, .ref (q 0)), (2, .int s18.1), (4, .int s96.1)] → (∀ (H : Heap) (locs : List Loc) (ls : Array Slot), va_P D vwCl (WM q cy e96 ++ rest) H → va_D A (WM q cy e96 ++ rest) → va_S A s.heap H locs → lv_has ls 6 [(0, .ref (q 0)), (2, .int s18.1)] → W p l e rmX6_passes s m ([.ref (q 0), .int a1] : List Value).toArray below meth c H locs 0 0 (MQ below (kQi D A res.1 (WM q cy res.2 ++ rest)) ([.ref (q 0), .int a1] : List Value).toArray s 0 0 A) (F0 m 160 ls [])) → W p l e rmX6_passes s m ([.ref (q 0), .int a1] : List Value).toArray below meth c H locs 0 0 (MQ below (kQi D A res.1 (WM q cy res.2 ++ rest)) ([.ref (q 0), .int a1] : List Value).toArray s 0 0 A) (F0 m 96 ls []) := by
                intro n96v
                induction n96v with
                | zero => intro s96 e96 h; exact (lpO_z h).elim
                | succ n96v ih96 =>
                  intro s96 e96 h96z H locs ls hP hD hS hl K96_0
                  obtain ⟨x96, hf, h96z⟩ := lpO_s h96z
                  unfold mX6_passes_s96 at hf
                  refine lv_iload hx hb dX6_passes_96 (lv_at hl 2 rfl) ?_
                  refine lv_bipush (v := 21) hx hb dX6_passes_98 (by decide) ?_
                  refine lv_icmp_ge (tgt := 160) hx hb dX6_passes_100 (by decide) (fun c100 => ?_) (fun c100 => ?_)
                  · have hf := o_ip c100 hf
                    obtain rfl := o_ret hf
                    obtain rfl := lpK_l h96z
                    exact K96_0 _ _ _ hP hD hS (lv_sub hl [0, 1] rfl)
                  · have hf := o_in c100 hf
                    refine lv_aload_n hx hb dX6_passes_103 rfl (lv_at hl 0 rfl) ?_
                    refine lv_iload hx hb dX6_passes_104 (lv_at hl 2 rfl) ?_
                    refine lv_iload_n hx hb dX6_passes_106 rfl (lv_at hl 1 rfl) ?_
                    obtain ⟨r107, h107r, hf⟩ := o_bs hf
                    refine k_gov (va_runV (As := [.int s96.1, .int s18.1]) (rest := []) ⟨hx, hb, hml, hown, hts⟩ (zX6_lays l D cy sa q rest H.size s96.2 s96.1 s18.1 r107 h107r) (cwV 2 hts (gB_V wB390 wB391 wB392 wB5 wB393) rfl rfl rfl (by decide +kernel) ⟨Nat.le_of_ble_eq_true rfl, Nat.le_of_ble_eq_true rfl⟩) ⟨kP.blind, k_recv hE hP (ci := 6) (q0 := 0) rfl rfl, k_pre hP hD hS hE hA⟩ rfl rfl hl.1 rfl (lv_room (Nat.le_of_ble_eq_true rfl)) dX6_passes_107 ⟨Nat.zero_le _, Nat.zero_le _⟩) hD hS hA (fun H locs hP hD hS => ?_)
                    refine lv_iconst (v := 0) hx hb dX6_passes_110 (by decide) ?_
                    refine lv_istore (lv' := [(5, .int 0), (0, .ref (q 0)), (2, .int s18.1), (4, .int s96.1)]) hx hb dX6_passes_111 hl (by decide) rfl (fun ls hl => ?_)
                    have L113 : ∀ (n113v : Nat) (s113 : Int32 × KS) (e113 : KS), lpO (mX6_passes_s113 s18.1 s96.1) n113v s113 = some e113 → ∀ (H : Heap) (locs : List Loc) (ls : Array Slot), va_P D vwCl (WM q cy s113.2 ++ rest) H → va_D A (WM q cy s113.2 ++ rest) → va_S A s.heap H locs → lv_has ls 6 [(0, .ref (q 0)), (2, .int s18.1), (4, .int s96.1), (5, .int s113.1)] → (∀ (H : Heap) (locs : List Loc) (ls : Array Slot), va_P D vwCl (WM q cy e113 ++ rest) H → va_D A (WM q cy e113 ++ rest) → va_S A s.heap H locs → lv_has ls 6 [(0, .ref (q 0)), (2, .int s18.1), (4, .int s96.1)] → W p l e rmX6_passes s m ([.ref (q 0), .int a1] : List Value).toArray below meth c H locs 0 0 (MQ below (kQi D A res.1 (WM q cy res.2 ++ rest)) ([.ref (q 0), .int a1] : List Value).toArray s 0 0 A) (F0 m 154 ls [])) → W p l e rmX6_passes s m ([.ref (q 0), .int a1] : List Value).toArray below meth c H locs 0 0 (MQ below (kQi D A res.1 (WM q cy res.2 ++ rest)) ([.ref (q 0), .int a1] : List Value).toArray s 0 0 A) (F0 m 113 ls []) := by
                      intro n113v
                      induction n113v with
                      | zero => intro s113 e113 h; exact (lpO_z h).elim
                      | succ n113v ih113 =>
                        intro s113 e113 h113z H locs ls hP hD hS hl K113_0
                        obtain ⟨x113, hf, h113z⟩ := lpO_s h113z
                        unfold mX6_passes_s113 at hf
                        refine lv_iload hx hb dX6_passes_113 (lv_at hl 3 rfl) ?_
                        refine lv_iconst (v := 4) hx hb dX6_passes_115 (by decide) ?_
                        refine lv_icmp_ge (tgt := 154) hx hb dX6_passes_116 (by decide) (fun c116 => ?_) (fun c116 => ?_)
                        · have hf := o_ip c116 hf
                          obtain rfl := o_ret hf
                          obtain rfl := lpK_l h113z
                          exact K113_0 _ _ _ hP hD hS (lv_sub hl [0, 1, 2] rfl)
                        · have hf := o_in c116 hf
                          refine lv_aload_n hx hb dX6_passes_119 rfl (lv_at hl 0 rfl) ?_
                          refine va_get (ci := 6) (v := .ref (q 7)) (C := RX6) (T := TX6) (N := 26) hx hb hts inlX6 hown hE.1 hP 0 rfl rfl 11 (by decide) (hts _ wB90) (fun _ h9 => h9) rfl dX6_passes_120 ?_
                          refine lv_iload_n hx hb dX6_passes_123 rfl (lv_at hl 1 rfl) ?_
                          obtain ⟨hg124, hf⟩ := gd_s hf
                          refine va_iald (f := (gR s113.2 6)) hx hb hE.1 hP 7 0 rfl rfl hg124 dX6_passes_124 ?_
                          refine lv_iconst (v := 4) hx hb dX6_passes_125 (by decide) ?_
                          refine lv_icmp_ne (tgt := 154) hx hb dX6_passes_126 (by decide) (fun c126 => ?_) (fun c126 => ?_)
                          · have hf := o_in c126 hf
                            obtain rfl := o_ret hf
                            obtain rfl := lpK_l h113z
                            exact K113_0 _ _ _ hP hD hS (lv_sub hl [0, 1, 2] rfl)
                          · have hf := o_ip c126 hf
                            refine lv_aload_n hx hb dX6_passes_129 rfl (lv_at hl 0 rfl) ?_
                            refine va_get (ci := 6) (v := .ref (q 10)) (C := RX6) (T := TX6) (N := 26) hx hb hts inlX6 hown hE.1 hP 0 rfl rfl 15 (by decide) (hts _ wB93) (fun _ h9 => h9) rfl dX6_passes_130 ?_
                            refine lv_sipush (v := 480) hx hb dX6_passes_133 (by decide) ?_
                            refine lv_iload hx hb dX6_passes_136 (lv_at hl 2 rfl) ?_
                            refine lv_imul hx hb dX6_passes_138 ?_
                            refine lv_iconst (v := 4) hx hb dX6_passes_139 (by decide) ?_
                            refine lv_iload_n hx hb dX6_passes_140 rfl (lv_at hl 1 rfl) ?_
                            refine lv_imul hx hb dX6_passes_141 ?_
                            refine lv_iadd hx hb dX6_passes_142 ?_
                            refine lv_iload hx hb dX6_passes_143 (lv_at hl 3 rfl) ?_
                            refine lv_iadd hx hb dX6_passes_145 ?_
                            refine lv_iconst (v := 0) hx hb dX6_passes_146 (by decide) ?_
                            obtain ⟨hg147, hf⟩ := gd_s hf
                            refine va_iast (f := (gR s113.2 9)) hx hb hE.1 hP hD hS 10 0 rfl rfl hg147 dX6_passes_147 (fun H locs hP hD hS => ?_)
                            have hP : va_P D vwCl (WM q cy (sR s113.2 9 (upd (gR s113.2 9) ((((480 * s96.1) + (4 * s18.1)) + s113.1).toNatClampNeg) 0)) ++ rest) H := hP
                            have hD : va_D A (WM q cy (sR s113.2 9 (upd (gR s113.2 9) ((((480 * s96.1) + (4 * s18.1)) + s113.1).toNatClampNeg) 0)) ++ rest) := hD
                            refine lv_iinc (v := (s113.1 + 1)) (lv' := [(5, .int (s113.1 + 1)), (0, .ref (q 0)), (2, .int s18.1), (4, .int s96.1)]) hx hb dX6_passes_148 hl (k := 3) rfl (by rfl) (by decide) rfl (fun ls hl => ?_)
                            refine lv_goto (tgt := 113) hx hb dX6_passes_151 (by decide) ?_
                            obtain rfl := o_ret hf
                            exact ih113 _ _ (lpK_r h113z) _ _ _ hP hD hS (lv_sub hl [1, 2, 3, 0] rfl) K113_0
                    obtain ⟨e113, h113q, hf⟩ := o_bs hf
                    obtain ⟨n113v, h113q⟩ := lpF_ex h113q
                    refine L113 n113v _ e113 h113q _ _ _ hP hD hS (lv_sub hl [1, 2, 3, 0] rfl) ?_
                    intro H locs ls hP hD hS hl
                    refine lv_iinc (v := (s96.1 + 1)) (lv' := [(4, .int (s96.1 + 1)), (0, .ref (q 0)), (2, .int s18.1)]) hx hb dX6_passes_154 hl (k := 2) rfl (by rfl) (by decide) rfl (fun ls hl => ?_)
                    refine lv_goto (tgt := 96) hx hb dX6_passes_157 (by decide) ?_
                    obtain rfl := o_ret hf
                    exact ih96 _ _ (lpK_r h96z) _ _ _ hP hD hS (lv_sub hl [1, 2, 0] rfl) K96_0
              obtain ⟨e96, h96q, hf⟩ := o_bs hf
              obtain ⟨n96v, h96q⟩ := lpF_ex h96q
              refine L96 n96v _ e96 h96q _ _ _ hP hD hS (lv_sub hl [2, 3, 0] rfl) ?_
              intro H locs ls hP hD hS hl
              refine lv_iinc (v := (s18.1 + 1)) (lv' := [(2, .int (s18.1 + 1)), (0, .ref (q 0))]) hx hb dX6_passes_160 hl (k := 1) rfl (by rfl) (by decide) rfl (fun ls hl => ?_)
              refine lv_goto (tgt := 18) hx hb dX6_passes_163 (by decide) ?_
              obtain rfl := o_ret hf
              exact ih18 _ _ (lpK_r h18z) _ _ _ hP hD hS (lv_sub hl [1, 0] rfl) K18_0
          · have hf := o_ip c33 hf
            refine lv_aload_n hx hb dX6_passes_36 rfl (lv_at hl 0 rfl) ?_
            refine va_get (ci := 6) (v := .ref (q 9)) (C := RX6) (T := TX6) (N := 26) hx hb hts inlX6 hown hE.1 hP 0 rfl rfl 13 (by decide) (hts _ wB92) (fun _ h9 => h9) rfl dX6_passes_37 ?_
            refine lv_iload_n hx hb dX6_passes_40 rfl (lv_at hl 1 rfl) ?_
            obtain ⟨hg41, hf⟩ := gd_s hf
            refine va_iald (f := (gR s18.2 8)) hx hb hE.1 hP 9 0 rfl rfl hg41 dX6_passes_41 ?_
            refine lv_iconst (v := 1) hx hb dX6_passes_42 (by decide) ?_
            refine lv_isub hx hb dX6_passes_43 ?_
            refine lv_goto (tgt := 64) hx hb dX6_passes_44 (by decide) ?_
            refine lv_istore_n (lv' := [(3, .int (((gR s18.2 8) (s18.1.toNatClampNeg)) - 1)), (0, .ref (q 0)), (2, .int s18.1)]) hx hb dX6_passes_64 rfl hl (by decide) rfl (fun ls hl => ?_)
            refine lv_aload_n hx hb dX6_passes_65 rfl (lv_at hl 1 rfl) ?_
            refine va_get (ci := 6) (v := .ref (q 9)) (C := RX6) (T := TX6) (N := 26) hx hb hts inlX6 hown hE.1 hP 0 rfl rfl 13 (by decide) (hts _ wB92) (fun _ h9 => h9) rfl dX6_passes_66 ?_
            refine lv_iload_n hx hb dX6_passes_69 rfl (lv_at hl 2 rfl) ?_
            refine lv_iconst (v := 1) hx hb dX6_passes_70 (by decide) ?_
            refine lv_iadd hx hb dX6_passes_71 ?_
            refine lv_iload_n hx hb dX6_passes_72 rfl (lv_at hl 0 rfl) ?_
            refine lv_if_ge (tgt := 80) hx hb dX6_passes_73 (by decide) (fun c73 => ?_) (fun c73 => ?_)
            · have hf := o_ip c73 hf
              refine lv_iload_n hx hb dX6_passes_80 rfl (lv_at hl 0 rfl) ?_
              refine lv_bipush (v := 100) hx hb dX6_passes_81 (by decide) ?_
              refine lv_icmp_le (tgt := 91) hx hb dX6_passes_83 (by decide) (fun c83 => ?_) (fun c83 => ?_)
              · have hf := o_ip c83 hf
                refine lv_iload_n hx hb dX6_passes_91 rfl (lv_at hl 0 rfl) ?_
                obtain ⟨hg92, hf⟩ := gd_s hf
                refine va_iast (f := (gR s18.2 8)) hx hb hE.1 hP hD hS 9 0 rfl rfl hg92 dX6_passes_92 (fun H locs hP hD hS => ?_)
                have hP : va_P D vwCl (WM q cy (sR s18.2 8 (upd (gR s18.2 8) ((s18.1 + 1).toNatClampNeg) (((gR s18.2 8) (s18.1.toNatClampNeg)) - 1))) ++ rest) H := hP
                have hD : va_D A (WM q cy (sR s18.2 8 (upd (gR s18.2 8) ((s18.1 + 1).toNatClampNeg) (((gR s18.2 8) (s18.1.toNatClampNeg)) - 1))) ++ rest) := hD
                refine lv_iconst (v := 0) hx hb dX6_passes_93 (by decide) ?_
                refine lv_istore (lv' := [(4, .int 0), (3, .int (((gR s18.2 8) (s18.1.toNatClampNeg)) - 1)), (0, .ref (q 0)), (2, .int s18.1)]) hx hb dX6_passes_94 hl (by decide) rfl (fun ls hl => ?_)
                have L96 : ∀ (n96v : Nat) (s96 : Int32 × KS) (e96 : KS), lpO (mX6_passes_s96 s18.1) n96v s96 = some e96 → ∀ (H : Heap) (locs : List Loc) (ls : Array Slot), va_P D vwCl (WM q cy s96.2 ++ rest) H → va_D A (WM q cy s96.2 ++ rest) → va_S A s.heap H locs → lv_has ls 6 [(0, .ref (q 0)), (2, .int s18.1), (4, .int s96.1)] → (∀ (H : Heap) (locs : List Loc) (ls : Array Slot), va_P D vwCl (WM q cy e96 ++ rest) H → va_D A (WM q cy e96 ++ rest) → va_S A s.heap H locs → lv_has ls 6 [(0, .ref (q 0)), (2, .int s18.1)] → W p l e rmX6_passes s m ([.ref (q 0), .int a1] : List Value).toArray below meth c H locs 0 0 (MQ below (kQi D A res.1 (WM q cy res.2 ++ rest)) ([.ref (q 0), .int a1] : List Value).toArray s 0 0 A) (F0 m 160 ls [])) → W p l e rmX6_passes s m ([.ref (q 0), .int a1] : List Value).toArray below meth c H locs 0 0 (MQ below (kQi D A res.1 (WM q cy res.2 ++ rest)) ([.ref (q 0), .int a1] : List Value).toArray s 0 0 A) (F0 m 96 ls []) := by
                  intro n96v
                  induction n96v with
                  | zero => intro s96 e96 h; exact (lpO_z h).elim
                  | succ n96v ih96 =>
                    intro s96 e96 h96z H locs ls hP hD hS hl K96_0
                    obtain ⟨x96, hf, h96z⟩ := lpO_s h96z
                    unfold mX6_passes_s96 at hf
                    refine lv_iload hx hb dX6_passes_96 (lv_at hl 2 rfl) ?_
                    refine lv_bipush (v := 21) hx hb dX6_passes_98 (by decide) ?_
                    refine lv_icmp_ge (tgt := 160) hx hb dX6_passes_100 (by decide) (fun c100 => ?_) (fun c100 => ?_)
                    · have hf := o_ip c100 hf
                      obtain rfl := o_ret hf
                      obtain rfl := lpK_l h96z
                      exact K96_0 _ _ _ hP hD hS (lv_sub hl [0, 1] rfl)
                    · have hf := o_in c100 hf
                      refine lv_aload_n hx hb dX6_passes_103 rfl (lv_at hl 0 rfl) ?_
                      refine lv_iload hx hb dX6_passes_104 (lv_at hl 2 rfl) ?_
                      refine lv_iload_n hx hb dX6_passes_106 rfl (lv_at hl 1 rfl) ?_
                      obtain ⟨r107, h107r, hf⟩ := o_bs hf
                      refine k_gov (va_runV (As := [.int s96.1, .int s18.1]) (rest := []) ⟨hx, hb, hml, hown, hts⟩ (zX6_lays l D cy sa q rest H.size s96.2 s96.1 s18.1 r107 h107r) (cwV 2 hts (gB_V wB390 wB391 wB392 wB5 wB393) rfl rfl rfl (by decide +kernel) ⟨Nat.le_of_ble_eq_true rfl, Nat.le_of_ble_eq_true rfl⟩) ⟨kP.blind, k_recv hE hP (ci := 6) (q0 := 0) rfl rfl, k_pre hP hD hS hE hA⟩ rfl rfl hl.1 rfl (lv_room (Nat.le_of_ble_eq_true rfl)) dX6_passes_107 ⟨Nat.zero_le _, Nat.zero_le _⟩) hD hS hA (fun H locs hP hD hS => ?_)
                      refine lv_iconst (v := 0) hx hb dX6_passes_110 (by decide) ?_
                      refine lv_istore (lv' := [(5, .int 0), (0, .ref (q 0)), (2, .int s18.1), (4, .int s96.1)]) hx hb dX6_passes_111 hl (by decide) rfl (fun ls hl => ?_)
                      have L113 : ∀ (n113v : Nat) (s113 : Int32 × KS) (e113 : KS), lpO (mX6_passes_s113 s18.1 s96.1) n113v s113 = some e113 → ∀ (H : Heap) (locs : List Loc) (ls : Array Slot), va_P D vwCl (WM q cy s113.2 ++ rest) H → va_D A (WM q cy s113.2 ++ rest) → va_S A s.heap H locs → lv_has ls 6 [(0, .ref (q 0)), (2, .int s18.1), (4, .int s96.1), (5, .int s113.1)] → (∀ (H : Heap) (locs : List Loc) (ls : Array Slot), va_P D vwCl (WM q cy e113 ++ rest) H → va_D A (WM q cy e113 ++ rest) → va_S A s.heap H locs → lv_has ls 6 [(0, .ref (q 0)), (2, .int s18.1), (4, .int s96.1)] → W p l e rmX6_passes s m ([.ref (q 0), .int a1] : List Value).toArray below meth c H locs 0 0 (MQ below (kQi D A res.1 (WM q cy res.2 ++ rest)) ([.ref (q 0), .int a1] : List Value).toArray s 0 0 A) (F0 m 154 ls [])) → W p l e rmX6_passes s m ([.ref (q 0), .int a1] : List Value).toArray below meth c H locs 0 0 (MQ below (kQi D A res.1 (WM q cy res.2 ++ rest)) ([.ref (q 0), .int a1] : List Value).toArray s 0 0 A) (F0 m 113 ls []) := by
                        intro n113v
                        induction n113v with
                        | zero => intro s113 e113 h; exact (lpO_z h).elim
                        | succ n113v ih113 =>
                          intro s113 e113 h113z H locs ls hP hD hS hl K113_0
                          obtain ⟨x113, hf, h113z⟩ := lpO_s h113z
                          unfold mX6_passes_s113 at hf
                          refine lv_iload hx hb dX6_passes_113 (lv_at hl 3 rfl) ?_
                          refine lv_iconst (v := 4) hx hb dX6_passes_115 (by decide) ?_
                          refine lv_icmp_ge (tgt := 154) hx hb dX6_passes_116 (by decide) (fun c116 => ?_) (fun c116 => ?_)
                          · have hf := o_ip c116 hf
                            obtain rfl := o_ret hf
                            obtain rfl := lpK_l h113z
                            exact K113_0 _ _ _ hP hD hS (lv_sub hl [0, 1, 2] rfl)
                          · have hf := o_in c116 hf
                            refine lv_aload_n hx hb dX6_passes_119 rfl (lv_at hl 0 rfl) ?_
                            refine va_get (ci := 6) (v := .ref (q 7)) (C := RX6) (T := TX6) (N := 26) hx hb hts inlX6 hown hE.1 hP 0 rfl rfl 11 (by decide) (hts _ wB90) (fun _ h9 => h9) rfl dX6_passes_120 ?_
                            refine lv_iload_n hx hb dX6_passes_123 rfl (lv_at hl 1 rfl) ?_
                            obtain ⟨hg124, hf⟩ := gd_s hf
                            refine va_iald (f := (gR s113.2 6)) hx hb hE.1 hP 7 0 rfl rfl hg124 dX6_passes_124 ?_
                            refine lv_iconst (v := 4) hx hb dX6_passes_125 (by decide) ?_
                            refine lv_icmp_ne (tgt := 154) hx hb dX6_passes_126 (by decide) (fun c126 => ?_) (fun c126 => ?_)
                            · have hf := o_in c126 hf
                              obtain rfl := o_ret hf
                              obtain rfl := lpK_l h113z
                              exact K113_0 _ _ _ hP hD hS (lv_sub hl [0, 1, 2] rfl)
                            · have hf := o_ip c126 hf
                              refine lv_aload_n hx hb dX6_passes_129 rfl (lv_at hl 0 rfl) ?_
                              refine va_get (ci := 6) (v := .ref (q 10)) (C := RX6) (T := TX6) (N := 26) hx hb hts inlX6 hown hE.1 hP 0 rfl rfl 15 (by decide) (hts _ wB93) (fun _ h9 => h9) rfl dX6_passes_130 ?_
                              refine lv_sipush (v := 480) hx hb dX6_passes_133 (by decide) ?_
                              refine lv_iload hx hb dX6_passes_136 (lv_at hl 2 rfl) ?_
                              refine lv_imul hx hb dX6_passes_138 ?_
                              refine lv_iconst (v := 4) hx hb dX6_passes_139 (by decide) ?_
                              refine lv_iload_n hx hb dX6_passes_140 rfl (lv_at hl 1 rfl) ?_
                              refine lv_imul hx hb dX6_passes_141 ?_
                              refine lv_iadd hx hb dX6_passes_142 ?_
                              refine lv_iload hx hb dX6_passes_143 (lv_at hl 3 rfl) ?_
                              refine lv_iadd hx hb dX6_passes_145 ?_
                              refine lv_iconst (v := 0) hx hb dX6_passes_146 (by decide) ?_
                              obtain ⟨hg147, hf⟩ := gd_s hf
                              refine va_iast (f := (gR s113.2 9)) hx hb hE.1 hP hD hS 10 0 rfl rfl hg147 dX6_passes_147 (fun H locs hP hD hS => ?_)
                              have hP : va_P D vwCl (WM q cy (sR s113.2 9 (upd (gR s113.2 9) ((((480 * s96.1) + (4 * s18.1)) + s113.1).toNatClampNeg) 0)) ++ rest) H := hP
                              have hD : va_D A (WM q cy (sR s113.2 9 (upd (gR s113.2 9) ((((480 * s96.1) + (4 * s18.1)) + s113.1).toNatClampNeg) 0)) ++ rest) := hD
                              refine lv_iinc (v := (s113.1 + 1)) (lv' := [(5, .int (s113.1 + 1)), (0, .ref (q 0)), (2, .int s18.1), (4, .int s96.1)]) hx hb dX6_passes_148 hl (k := 3) rfl (by rfl) (by decide) rfl (fun ls hl => ?_)
                              refine lv_goto (tgt := 113) hx hb dX6_passes_151 (by decide) ?_
                              obtain rfl := o_ret hf
                              exact ih113 _ _ (lpK_r h113z) _ _ _ hP hD hS (lv_sub hl [1, 2, 3, 0] rfl) K113_0
                      obtain ⟨e113, h113q, hf⟩ := o_bs hf
                      obtain ⟨n113v, h113q⟩ := lpF_ex h113q
                      refine L113 n113v _ e113 h113q _ _ _ hP hD hS (lv_sub hl [1, 2, 3, 0] rfl) ?_
                      intro H locs ls hP hD hS hl
                      refine lv_iinc (v := (s96.1 + 1)) (lv' := [(4, .int (s96.1 + 1)), (0, .ref (q 0)), (2, .int s18.1)]) hx hb dX6_passes_154 hl (k := 2) rfl (by rfl) (by decide) rfl (fun ls hl => ?_)
                      refine lv_goto (tgt := 96) hx hb dX6_passes_157 (by decide) ?_
                      obtain rfl := o_ret hf
                      exact ih96 _ _ (lpK_r h96z) _ _ _ hP hD hS (lv_sub hl [1, 2, 0] rfl) K96_0
                obtain ⟨e96, h96q, hf⟩ := o_bs hf
                obtain ⟨n96v, h96q⟩ := lpF_ex h96q
                refine L96 n96v _ e96 h96q _ _ _ hP hD hS (lv_sub hl [2, 3, 0] rfl) ?_
                intro H locs ls hP hD hS hl
                refine lv_iinc (v := (s18.1 + 1)) (lv' := [(2, .int (s18.1 + 1)), (0, .ref (q 0))]) hx hb dX6_passes_160 hl (k := 1) rfl (by rfl) (by decide) rfl (fun ls hl => ?_)
                refine lv_goto (tgt := 18) hx hb dX6_passes_163 (by decide) ?_
                obtain rfl := o_ret hf
                exact ih18 _ _ (lpK_r h18z) _ _ _ hP hD hS (lv_sub hl [1, 0] rfl) K18_0
              · have hf := o_in c83 hf
                refine lv_bipush (v := 100) hx hb dX6_passes_86 (by decide) ?_
                refine lv_goto (tgt := 92) hx hb dX6_passes_88 (by decide) ?_
                obtain ⟨hg92, hf⟩ := gd_s hf
                refine va_iast (f := (gR s18.2 8)) hx hb hE.1 hP hD hS 9 0 rfl rfl hg92 dX6_passes_92 (fun H locs hP hD hS => ?_)
                have hP : va_P D vwCl (WM q cy (sR s18.2 8 (upd (gR s18.2 8) ((s18.1 + 1).toNatClampNeg) 100)) ++ rest) H := hP
                have hD : va_D A (WM q cy (sR s18.2 8 (upd (gR s18.2 8) ((s18.1 + 1).toNatClampNeg) 100)) ++ rest) := hD
                refine lv_iconst (v := 0) hx hb dX6_passes_93 (by decide) ?_
                refine lv_istore (lv' := [(4, .int 0), (3, .int (((gR s18.2 8) (s18.1.toNatClampNeg)) - 1)), (0, .ref (q 0)), (2, .int s18.1)]) hx hb dX6_passes_94 hl (by decide) rfl (fun ls hl => ?_)
                have L96 : ∀ (n96v : Nat) (s96 : Int32 × KS) (e96 : KS), lpO (mX6_passes_s96 s18.1) n96v s96 = some e96 → ∀ (H : Heap) (locs : List Loc) (ls : Array Slot), va_P D vwCl (WM q cy s96.2 ++ rest) H → va_D A (WM q cy s96.2 ++ rest) → va_S A s.heap H locs → lv_has ls 6 [(0, .ref (q 0)), (2, .int s18.1), (4, .int s96.1)] → (∀ (H : Heap) (locs : List Loc) (ls : Array Slot), va_P D vwCl (WM q cy e96 ++ rest) H → va_D A (WM q cy e96 ++ rest) → va_S A s.heap H locs → lv_has ls 6 [(0, .ref (q 0)), (2, .int s18.1)] → W p l e rmX6_passes s m ([.ref (q 0), .int a1] : List Value).toArray below meth c H locs 0 0 (MQ below (kQi D A res.1 (WM q cy res.2 ++ rest)) ([.ref (q 0), .int a1] : List Value).toArray s 0 0 A) (F0 m 160 ls [])) → W p l e rmX6_passes s m ([.ref (q 0), .int a1] : List Value).toArray below meth c H locs 0 0 (MQ below (kQi D A res.1 (WM q cy res.2 ++ rest)) ([.ref (q 0), .int a1] : List Value).toArray s 0 0 A) (F0 m 96 ls []) := by
                  intro n96v
                  induction n96v with
                  | zero => intro s96 e96 h; exact (lpO_z h).elim
                  | succ n96v ih96 =>
                    intro s96 e96 h96z H locs ls hP hD hS hl K96_0
                    obtain ⟨x96, hf, h96z⟩ := lpO_s h96z
                    unfold mX6_passes_s96 at hf
                    refine lv_iload hx hb dX6_passes_96 (lv_at hl 2 rfl) ?_
                    refine lv_bipush (v := 21) hx hb dX6_passes_98 (by decide) ?_
                    refine lv_icmp_ge (tgt := 160) hx hb dX6_passes_100 (by decide) (fun c100 => ?_) (fun c100 => ?_)
                    · have hf := o_ip c100 hf
                      obtain rfl := o_ret hf
                      obtain rfl := lpK_l h96z
                      exact K96_0 _ _ _ hP hD hS (lv_sub hl [0, 1] rfl)
                    · have hf := o_in c100 hf
                      refine lv_aload_n hx hb dX6_passes_103 rfl (lv_at hl 0 rfl) ?_
                      refine lv_iload hx hb dX6_passes_104 (lv_at hl 2 rfl) ?_
                      refine lv_iload_n hx hb dX6_passes_106 rfl (lv_at hl 1 rfl) ?_
                      obtain ⟨r107, h107r, hf⟩ := o_bs hf
                      refine k_gov (va_runV (As := [.int s96.1, .int s18.1]) (rest := []) ⟨hx, hb, hml, hown, hts⟩ (zX6_lays l D cy sa q rest H.size s96.2 s96.1 s18.1 r107 h107r) (cwV 2 hts (gB_V wB390 wB391 wB392 wB5 wB393) rfl rfl rfl (by decide +kernel) ⟨Nat.le_of_ble_eq_true rfl, Nat.le_of_ble_eq_true rfl⟩) ⟨kP.blind, k_recv hE hP (ci := 6) (q0 := 0) rfl rfl, k_pre hP hD hS hE hA⟩ rfl rfl hl.1 rfl (lv_room (Nat.le_of_ble_eq_true rfl)) dX6_passes_107 ⟨Nat.zero_le _, Nat.zero_le _⟩) hD hS hA (fun H locs hP hD hS => ?_)
                      refine lv_iconst (v := 0) hx hb dX6_passes_110 (by decide) ?_
                      refine lv_istore (lv' := [(5, .int 0), (0, .ref (q 0)), (2, .int s18.1), (4, .int s96.1)]) hx hb dX6_passes_111 hl (by decide) rfl (fun ls hl => ?_)
                      have L113 : ∀ (n113v : Nat) (s113 : Int32 × KS) (e113 : KS), lpO (mX6_passes_s113 s18.1 s96.1) n113v s113 = some e113 → ∀ (H : Heap) (locs : List Loc) (ls : Array Slot), va_P D vwCl (WM q cy s113.2 ++ rest) H → va_D A (WM q cy s113.2 ++ rest) → va_S A s.heap H locs → lv_has ls 6 [(0, .ref (q 0)), (2, .int s18.1), (4, .int s96.1), (5, .int s113.1)] → (∀ (H : Heap) (locs : List Loc) (ls : Array Slot), va_P D vwCl (WM q cy e113 ++ rest) H → va_D A (WM q cy e113 ++ rest) → va_S A s.heap H locs → lv_has ls 6 [(0, .ref (q 0)), (2, .int s18.1), (4, .int s96.1)] → W p l e rmX6_passes s m ([.ref (q 0), .int a1] : List Value).toArray below meth c H locs 0 0 (MQ below (kQi D A res.1 (WM q cy res.2 ++ rest)) ([.ref (q 0), .int a1] : List Value).toArray s 0 0 A) (F0 m 154 ls [])) → W p l e rmX6_passes s m ([.ref (q 0), .int a1] : List Value).toArray below meth c H locs 0 0 (MQ below (kQi D A res.1 (WM q cy res.2 ++ rest)) ([.ref (q 0), .int a1] : List Value).toArray s 0 0 A) (F0 m 113 ls []) := by
                        intro n113v
                        induction n113v with
                        | zero => intro s113 e113 h; exact (lpO_z h).elim
                        | succ n113v ih113 =>
                          intro s113 e113 h113z H locs ls hP hD hS hl K113_0
                          obtain ⟨x113, hf, h113z⟩ := lpO_s h113z
                          unfold mX6_passes_s113 at hf
                          refine lv_iload hx hb dX6_passes_113 (lv_at hl 3 rfl) ?_
                          refine lv_iconst (v := 4) hx hb dX6_passes_115 (by decide) ?_
                          refine lv_icmp_ge (tgt := 154) hx hb dX6_passes_116 (by decide) (fun c116 => ?_) (fun c116 => ?_)
                          · have hf := o_ip c116 hf
                            obtain rfl := o_ret hf
                            obtain rfl := lpK_l h113z
                            exact K113_0 _ _ _ hP hD hS (lv_sub hl [0, 1, 2] rfl)
                          · have hf := o_in c116 hf
                            refine lv_aload_n hx hb dX6_passes_119 rfl (lv_at hl 0 rfl) ?_
                            refine va_get (ci := 6) (v := .ref (q 7)) (C := RX6) (T := TX6) (N := 26) hx hb hts inlX6 hown hE.1 hP 0 rfl rfl 11 (by decide) (hts _ wB90) (fun _ h9 => h9) rfl dX6_passes_120 ?_
                            refine lv_iload_n hx hb dX6_passes_123 rfl (lv_at hl 1 rfl) ?_
                            obtain ⟨hg124, hf⟩ := gd_s hf
                            refine va_iald (f := (gR s113.2 6)) hx hb hE.1 hP 7 0 rfl rfl hg124 dX6_passes_124 ?_
                            refine lv_iconst (v := 4) hx hb dX6_passes_125 (by decide) ?_
                            refine lv_icmp_ne (tgt := 154) hx hb dX6_passes_126 (by decide) (fun c126 => ?_) (fun c126 => ?_)
                            · have hf := o_in c126 hf
                              obtain rfl := o_ret hf
                              obtain rfl := lpK_l h113z
                              exact K113_0 _ _ _ hP hD hS (lv_sub hl [0, 1, 2] rfl)
                            · have hf := o_ip c126 hf
                              refine lv_aload_n hx hb dX6_passes_129 rfl (lv_at hl 0 rfl) ?_
                              refine va_get (ci := 6) (v := .ref (q 10)) (C := RX6) (T := TX6) (N := 26) hx hb hts inlX6 hown hE.1 hP 0 rfl rfl 15 (by decide) (hts _ wB93) (fun _ h9 => h9) rfl dX6_passes_130 ?_
                              refine lv_sipush (v := 480) hx hb dX6_passes_133 (by decide) ?_
                              refine lv_iload hx hb dX6_passes_136 (lv_at hl 2 rfl) ?_
                              refine lv_imul hx hb dX6_passes_138 ?_
                              refine lv_iconst (v := 4) hx hb dX6_passes_139 (by decide) ?_
                              refine lv_iload_n hx hb dX6_passes_140 rfl (lv_at hl 1 rfl) ?_
                              refine lv_imul hx hb dX6_passes_141 ?_
                              refine lv_iadd hx hb dX6_passes_142 ?_
                              refine lv_iload hx hb dX6_passes_143 (lv_at hl 3 rfl) ?_
                              refine lv_iadd hx hb dX6_passes_145 ?_
                              refine lv_iconst (v := 0) hx hb dX6_passes_146 (by decide) ?_
                              obtain ⟨hg147, hf⟩ := gd_s hf
                              refine va_iast (f := (gR s113.2 9)) hx hb hE.1 hP hD hS 10 0 rfl rfl hg147 dX6_passes_147 (fun H locs hP hD hS => ?_)
                              have hP : va_P D vwCl (WM q cy (sR s113.2 9 (upd (gR s113.2 9) ((((480 * s96.1) + (4 * s18.1)) + s113.1).toNatClampNeg) 0)) ++ rest) H := hP
                              have hD : va_D A (WM q cy (sR s113.2 9 (upd (gR s113.2 9) ((((480 * s96.1) + (4 * s18.1)) + s113.1).toNatClampNeg) 0)) ++ rest) := hD
                              refine lv_iinc (v := (s113.1 + 1)) (lv' := [(5, .int (s113.1 + 1)), (0, .ref (q 0)), (2, .int s18.1), (4, .int s96.1)]) hx hb dX6_passes_148 hl (k := 3) rfl (by rfl) (by decide) rfl (fun ls hl => ?_)
                              refine lv_goto (tgt := 113) hx hb dX6_passes_151 (by decide) ?_
                              obtain rfl := o_ret hf
                              exact ih113 _ _ (lpK_r h113z) _ _ _ hP hD hS (lv_sub hl [1, 2, 3, 0] rfl) K113_0
                      obtain ⟨e113, h113q, hf⟩ := o_bs hf
                      obtain ⟨n113v, h113q⟩ := lpF_ex h113q
                      refine L113 n113v _ e113 h113q _ _ _ hP hD hS (lv_sub hl [1, 2, 3, 0] rfl) ?_
                      intro H locs ls hP hD hS hl
                      refine lv_iinc (v := (s96.1 + 1)) (lv' := [(4, .int (s96.1 + 1)), (0, .ref (q 0)), (2, .int s18.1)]) hx hb dX6_passes_154 hl (k := 2) rfl (by rfl) (by decide) rfl (fun ls hl => ?_)
                      refine lv_goto (tgt := 96) hx hb dX6_passes_157 (by decide) ?_
                      obtain rfl := o_ret hf
                      exact ih96 _ _ (lpK_r h96z) _ _ _ hP hD hS (lv_sub hl [1, 2, 0] rfl) K96_0
                obtain ⟨e96, h96q, hf⟩ := o_bs hf
                obtain ⟨n96v, h96q⟩ := lpF_ex h96q
                refine L96 n96v _ e96 h96q _ _ _ hP hD hS (lv_sub hl [2, 3, 0] rfl) ?_
                intro H locs ls hP hD hS hl
                refine lv_iinc (v := (s18.1 + 1)) (lv' := [(2, .int (s18.1 + 1)), (0, .ref (q 0))]) hx hb dX6_passes_160 hl (k := 1) rfl (by rfl) (by decide) rfl (fun ls hl => ?_)
                refine lv_goto (tgt := 18) hx hb dX6_passes_163 (by decide) ?_
                obtain rfl := o_ret hf
                exact ih18 _ _ (lpK_r h18z) _ _ _ hP hD hS (lv_sub hl [1, 0] rfl) K18_0
            · have hf := o_in c73 hf
              refine lv_iconst (v := 0) hx hb dX6_passes_76 (by decide) ?_
              refine lv_goto (tgt := 92) hx hb dX6_passes_77 (by decide) ?_
              obtain ⟨hg92, hf⟩ := gd_s hf
              refine va_iast (f := (gR s18.2 8)) hx hb hE.1 hP hD hS 9 0 rfl rfl hg92 dX6_passes_92 (fun H locs hP hD hS => ?_)
              have hP : va_P D vwCl (WM q cy (sR s18.2 8 (upd (gR s18.2 8) ((s18.1 + 1).toNatClampNeg) 0)) ++ rest) H := hP
              have hD : va_D A (WM q cy (sR s18.2 8 (upd (gR s18.2 8) ((s18.1 + 1).toNatClampNeg) 0)) ++ rest) := hD
              refine lv_iconst (v := 0) hx hb dX6_passes_93 (by decide) ?_
              refine lv_istore (lv' := [(4, .int 0), (3, .int (((gR s18.2 8) (s18.1.toNatClampNeg)) - 1)), (0, .ref (q 0)), (2, .int s18.1)]) hx hb dX6_passes_94 hl (by decide) rfl (fun ls hl => ?_)
              have L96 : ∀ (n96v : Nat) (s96 : Int32 × KS) (e96 : KS), lpO (mX6_passes_s96 s18.1) n96v s96 = some e96 → ∀ (H : Heap) (locs : List Loc) (ls : Array Slot), va_P D vwCl (WM q cy s96.2 ++ rest) H → va_D A (WM q cy s96.2 ++ rest) → va_S A s.heap H locs → lv_has ls 6 [(0, .ref (q 0)), (2, .int s18.1), (4, .int s96.1)] → (∀ (H : Heap) (locs : List Loc) (ls : Array Slot), va_P D vwCl (WM q cy e96 ++ rest) H → va_D A (WM q cy e96 ++ rest) → va_S A s.heap H locs → lv_has ls 6 [(0, .ref (q 0)), (2, .int s18.1)] → W p l e rmX6_passes s m ([.ref (q 0), .int a1] : List Value).toArray below meth c H locs 0 0 (MQ below (kQi D A res.1 (WM q cy res.2 ++ rest)) ([.ref (q 0), .int a1] : List Value).toArray s 0 0 A) (F0 m 160 ls [])) → W p l e rmX6_passes s m ([.ref (q 0), .int a1] : List Value).toArray below meth c H locs 0 0 (MQ below (kQi D A res.1 (WM q cy res.2 ++ rest)) ([.ref (q 0), .int a1] : List Value).toArray s 0 0 A) (F0 m 96 ls []) := by
                intro n96v
                induction n96v with
                | zero => intro s96 e96 h; exact (lpO_z h).elim
                | succ n96v ih96 =>
                  intro s96 e96 h96z H locs ls hP hD hS hl K96_0
                  obtain ⟨x96, hf, h96z⟩ := lpO_s h96z
                  unfold mX6_passes_s96 at hf
                  refine lv_iload hx hb dX6_passes_96 (lv_at hl 2 rfl) ?_
                  refine lv_bipush (v := 21) hx hb dX6_passes_98 (by decide) ?_
                  refine lv_icmp_ge (tgt := 160) hx hb dX6_passes_100 (by decide) (fun c100 => ?_) (fun c100 => ?_)
                  · have hf := o_ip c100 hf
                    obtain rfl := o_ret hf
                    obtain rfl := lpK_l h96z
                    exact K96_0 _ _ _ hP hD hS (lv_sub hl [0, 1] rfl)
                  · have hf := o_in c100 hf
                    refine lv_aload_n hx hb dX6_passes_103 rfl (lv_at hl 0 rfl) ?_
                    refine lv_iload hx hb dX6_passes_104 (lv_at hl 2 rfl) ?_
                    refine lv_iload_n hx hb dX6_passes_106 rfl (lv_at hl 1 rfl) ?_
                    obtain ⟨r107, h107r, hf⟩ := o_bs hf
                    refine k_gov (va_runV (As := [.int s96.1, .int s18.1]) (rest := []) ⟨hx, hb, hml, hown, hts⟩ (zX6_lays l D cy sa q rest H.size s96.2 s96.1 s18.1 r107 h107r) (cwV 2 hts (gB_V wB390 wB391 wB392 wB5 wB393) rfl rfl rfl (by decide +kernel) ⟨Nat.le_of_ble_eq_true rfl, Nat.le_of_ble_eq_true rfl⟩) ⟨kP.blind, k_recv hE hP (ci := 6) (q0 := 0) rfl rfl, k_pre hP hD hS hE hA⟩ rfl rfl hl.1 rfl (lv_room (Nat.le_of_ble_eq_true rfl)) dX6_passes_107 ⟨Nat.zero_le _, Nat.zero_le _⟩) hD hS hA (fun H locs hP hD hS => ?_)
                    refine lv_iconst (v := 0) hx hb dX6_passes_110 (by decide) ?_
                    refine lv_istore (lv' := [(5, .int 0), (0, .ref (q 0)), (2, .int s18.1), (4, .int s96.1)]) hx hb dX6_passes_111 hl (by decide) rfl (fun ls hl => ?_)
                    have L113 : ∀ (n113v : Nat) (s113 : Int32 × KS) (e113 : KS), lpO (mX6_passes_s113 s18.1 s96.1) n113v s113 = some e113 → ∀ (H : Heap) (locs : List Loc) (ls : Array Slot), va_P D vwCl (WM q cy s113.2 ++ rest) H → va_D A (WM q cy s113.2 ++ rest) → va_S A s.heap H locs → lv_has ls 6 [(0, .ref (q 0)), (2, .int s18.1), (4, .int s96.1), (5, .int s113.1)] → (∀ (H : Heap) (locs : List Loc) (ls : Array Slot), va_P D vwCl (WM q cy e113 ++ rest) H → va_D A (WM q cy e113 ++ rest) → va_S A s.heap H locs → lv_has ls 6 [(0, .ref (q 0)), (2, .int s18.1), (4, .int s96.1)] → W p l e rmX6_passes s m ([.ref (q 0), .int a1] : List Value).toArray below meth c H locs 0 0 (MQ below (kQi D A res.1 (WM q cy res.2 ++ rest)) ([.ref (q 0), .int a1] : List Value).toArray s 0 0 A) (F0 m 154 ls [])) → W p l e rmX6_passes s m ([.ref (q 0), .int a1] : List Value).toArray below meth c H locs 0 0 (MQ below (kQi D A res.1 (WM q cy res.2 ++ rest)) ([.ref (q 0), .int a1] : List Value).toArray s 0 0 A) (F0 m 113 ls []) := by
                      intro n113v
                      induction n113v with
                      | zero => intro s113 e113 h; exact (lpO_z h).elim
                      | succ n113v ih113 =>
                        intro s113 e113 h113z H locs ls hP hD hS hl K113_0
                        obtain ⟨x113, hf, h113z⟩ := lpO_s h113z
                        unfold mX6_passes_s113 at hf
                        refine lv_iload hx hb dX6_passes_113 (lv_at hl 3 rfl) ?_
                        refine lv_iconst (v := 4) hx hb dX6_passes_115 (by decide) ?_
                        refine lv_icmp_ge (tgt := 154) hx hb dX6_passes_116 (by decide) (fun c116 => ?_) (fun c116 => ?_)
                        · have hf := o_ip c116 hf
                          obtain rfl := o_ret hf
                          obtain rfl := lpK_l h113z
                          exact K113_0 _ _ _ hP hD hS (lv_sub hl [0, 1, 2] rfl)
                        · have hf := o_in c116 hf
                          refine lv_aload_n hx hb dX6_passes_119 rfl (lv_at hl 0 rfl) ?_
                          refine va_get (ci := 6) (v := .ref (q 7)) (C := RX6) (T := TX6) (N := 26) hx hb hts inlX6 hown hE.1 hP 0 rfl rfl 11 (by decide) (hts _ wB90) (fun _ h9 => h9) rfl dX6_passes_120 ?_
                          refine lv_iload_n hx hb dX6_passes_123 rfl (lv_at hl 1 rfl) ?_
                          obtain ⟨hg124, hf⟩ := gd_s hf
                          refine va_iald (f := (gR s113.2 6)) hx hb hE.1 hP 7 0 rfl rfl hg124 dX6_passes_124 ?_
                          refine lv_iconst (v := 4) hx hb dX6_passes_125 (by decide) ?_
                          refine lv_icmp_ne (tgt := 154) hx hb dX6_passes_126 (by decide) (fun c126 => ?_) (fun c126 => ?_)
                          · have hf := o_in c126 hf
                            obtain rfl := o_ret hf
                            obtain rfl := lpK_l h113z
                            exact K113_0 _ _ _ hP hD hS (lv_sub hl [0, 1, 2] rfl)
                          · have hf := o_ip c126 hf
                            refine lv_aload_n hx hb dX6_passes_129 rfl (lv_at hl 0 rfl) ?_
                            refine va_get (ci := 6) (v := .ref (q 10)) (C := RX6) (T := TX6) (N := 26) hx hb hts inlX6 hown hE.1 hP 0 rfl rfl 15 (by decide) (hts _ wB93) (fun _ h9 => h9) rfl dX6_passes_130 ?_
                            refine lv_sipush (v := 480) hx hb dX6_passes_133 (by decide) ?_
                            refine lv_iload hx hb dX6_passes_136 (lv_at hl 2 rfl) ?_
                            refine lv_imul hx hb dX6_passes_138 ?_
                            refine lv_iconst (v := 4) hx hb dX6_passes_139 (by decide) ?_
                            refine lv_iload_n hx hb dX6_passes_140 rfl (lv_at hl 1 rfl) ?_
                            refine lv_imul hx hb dX6_passes_141 ?_
                            refine lv_iadd hx hb dX6_passes_142 ?_
                            refine lv_iload hx hb dX6_passes_143 (lv_at hl 3 rfl) ?_
                            refine lv_iadd hx hb dX6_passes_145 ?_
                            refine lv_iconst (v := 0) hx hb dX6_passes_146 (by decide) ?_
                            obtain ⟨hg147, hf⟩ := gd_s hf
                            refine va_iast (f := (gR s113.2 9)) hx hb hE.1 hP hD hS 10 0 rfl rfl hg147 dX6_passes_147 (fun H locs hP hD hS => ?_)
                            have hP : va_P D vwCl (WM q cy (sR s113.2 9 (upd (gR s113.2 9) ((((480 * s96.1) + (4 * s18.1)) + s113.1).toNatClampNeg) 0)) ++ rest) H := hP
                            have hD : va_D A (WM q cy (sR s113.2 9 (upd (gR s113.2 9) ((((480 * s96.1) + (4 * s18.1)) + s113.1).toNatClampNeg) 0)) ++ rest) := hD
                            refine lv_iinc (v := (s113.1 + 1)) (lv' := [(5, .int (s113.1 + 1)), (0, .ref (q 0)), (2, .int s18.1), (4, .int s96.1)]) hx hb dX6_passes_148 hl (k := 3) rfl (by rfl) (by decide) rfl (fun ls hl => ?_)
                            refine lv_goto (tgt := 113) hx hb dX6_passes_151 (by decide) ?_
                            obtain rfl := o_ret hf
                            exact ih113 _ _ (lpK_r h113z) _ _ _ hP hD hS (lv_sub hl [1, 2, 3, 0] rfl) K113_0
                    obtain ⟨e113, h113q, hf⟩ := o_bs hf
                    obtain ⟨n113v, h113q⟩ := lpF_ex h113q
                    refine L113 n113v _ e113 h113q _ _ _ hP hD hS (lv_sub hl [1, 2, 3, 0] rfl) ?_
                    intro H locs ls hP hD hS hl
                    refine lv_iinc (v := (s96.1 + 1)) (lv' := [(4, .int (s96.1 + 1)), (0, .ref (q 0)), (2, .int s18.1)]) hx hb dX6_passes_154 hl (k := 2) rfl (by rfl) (by decide) rfl (fun ls hl => ?_)
                    refine lv_goto (tgt := 96) hx hb dX6_passes_157 (by decide) ?_
                    obtain rfl := o_ret hf
                    exact ih96 _ _ (lpK_r h96z) _ _ _ hP hD hS (lv_sub hl [1, 2, 0] rfl) K96_0
              obtain ⟨e96, h96q, hf⟩ := o_bs hf
              obtain ⟨n96v, h96q⟩ := lpF_ex h96q
              refine L96 n96v _ e96 h96q _ _ _ hP hD hS (lv_sub hl [2, 3, 0] rfl) ?_
              intro H locs ls hP hD hS hl
              refine lv_iinc (v := (s18.1 + 1)) (lv' := [(2, .int (s18.1 + 1)), (0, .ref (q 0))]) hx hb dX6_passes_160 hl (k := 1) rfl (by rfl) (by decide) rfl (fun ls hl => ?_)
              refine lv_goto (tgt := 18) hx hb dX6_passes_163 (by decide) ?_
              obtain rfl := o_ret hf
              exact ih18 _ _ (lpK_r h18z) _ _ _ hP hD hS (lv_sub hl [1, 0] rfl) K18_0
    obtain ⟨e18, h18q, hf⟩ := o_bs hf
    obtain ⟨n18v, h18q⟩ := lpF_ex h18q
    refine L18 n18v _ e18 h18q _ _ _ hP hD hS (lv_sub hl [1, 0] rfl) ?_
    intro H locs ls hP hD hS hl
    refine lv_iconst (v := 1) hx hb dX6_passes_166 (by decide) ?_
    refine lv_istore_n (lv' := [(2, .int 1), (0, .ref (q 0))]) hx hb dX6_passes_167 rfl hl (by decide) rfl (fun ls hl => ?_)
    have L168 : ∀ (n168v : Nat) (s168 : Int32 × KS) (e168 : KS), lpO mX6_passes_s168 n168v s168 = some e168 → ∀ (H : Heap) (locs : List Loc) (ls : Array Slot), va_P D vwCl (WM q cy s168.2 ++ rest) H → va_D A (WM q cy s168.2 ++ rest) → va_S A s.heap H locs → lv_has ls 6 [(0, .ref (q 0)), (2, .int s168.1)] → (∀ (H : Heap) (locs : List Loc) (ls : Array Slot), va_P D vwCl (WM q cy e168 ++ rest) H → va_D A (WM q cy e168 ++ rest) → va_S A s.heap H locs → lv_has ls 6 [] → W p l e rmX6_passes s m ([.ref (q 0), .int a1] : List Value).toArray below meth c H locs 0 0 (MQ below (kQi D A res.1 (WM q cy res.2 ++ rest)) ([.ref (q 0), .int a1] : List Value).toArray s 0 0 A) (F0 m 184 ls [])) → W p l e rmX6_passes s m ([.ref (q 0), .int a1] : List Value).toArray below meth c H locs 0 0 (MQ below (kQi D A res.1 (WM q cy res.2 ++ rest)) ([.ref (q 0), .int a1] : List Value).toArray s 0 0 A) (F0 m 168 ls []) := by
      intro n168v
      induction n168v with
      | zero => intro s168 e168 h; exact (lpO_z h).elim
      | succ n168v ih168 =>
        intro s168 e168 h168z H locs ls hP hD hS hl K168_0
        obtain ⟨x168, hf, h168z⟩ := lpO_s h168z
        unfold mX6_passes_s168 at hf
        refine lv_iload_n hx hb dX6_passes_168 rfl (lv_at hl 1 rfl) ?_
        refine lv_iconst (v := 4) hx hb dX6_passes_169 (by decide) ?_
        refine lv_icmp_ge (tgt := 184) hx hb dX6_passes_170 (by decide) (fun c170 => ?_) (fun c170 => ?_)
        · have hf := o_ip c170 hf
          obtain rfl := o_ret hf
          obtain rfl := lpK_l h168z
          exact K168_0 _ _ _ hP hD hS (lv_sub hl [] rfl)
        · have hf := o_in c170 hf
          refine lv_aload_n hx hb dX6_passes_173 rfl (lv_at hl 0 rfl) ?_
          refine lv_iload_n hx hb dX6_passes_174 rfl (lv_at hl 1 rfl) ?_
          obtain ⟨r175, h175r, hf⟩ := o_bs hf
          refine k_gov (va_runV (As := [.int s168.1]) (rest := []) ⟨hx, hb, hml, hown, hts⟩ (zX6_stems l D cy sa q rest H.size s168.2 s168.1 r175 h175r) (cwV 1 hts (gB_V wB397 wB398 wB399 wB5 wB400) rfl rfl rfl (by decide +kernel) ⟨Nat.le_of_ble_eq_true rfl, Nat.le_of_ble_eq_true rfl⟩) ⟨kP.blind, k_recv hE hP (ci := 6) (q0 := 0) rfl rfl, k_pre hP hD hS hE hA⟩ rfl rfl hl.1 rfl (lv_room (Nat.le_of_ble_eq_true rfl)) dX6_passes_175 ⟨Nat.zero_le _, Nat.zero_le _⟩) hD hS hA (fun H locs hP hD hS => ?_)
          refine lv_iinc (v := (s168.1 + 1)) (lv' := [(2, .int (s168.1 + 1)), (0, .ref (q 0))]) hx hb dX6_passes_178 hl (k := 1) rfl (by rfl) (by decide) rfl (fun ls hl => ?_)
          refine lv_goto (tgt := 168) hx hb dX6_passes_181 (by decide) ?_
          obtain rfl := o_ret hf
          exact ih168 _ _ (lpK_r h168z) _ _ _ hP hD hS (lv_sub hl [1, 0] rfl) K168_0
    obtain ⟨e168, h168q, hf⟩ := o_bs hf
    obtain ⟨n168v, h168q⟩ := lpF_ex h168q
    refine L168 n168v _ e168 h168q _ _ _ hP hD hS (lv_sub hl [1, 0] rfl) ?_
    intro H locs ls hP hD hS hl
    refine lv_iconst (v := 1) hx hb dX6_passes_184 (by decide) ?_
    obtain rfl := o_ret hf
    exact k_zret (v := 1) hx hb hr hP hD hS rfl (Nat.zero_le _) (Nat.zero_le _) hlocks dX6_passes_185
  · have hf := o_ip c4 hf
    refine lv_iconst (v := 0) hx hb dX6_passes_7 (by decide) ?_
    obtain rfl := o_ret hf
    exact k_zret (v := 0) hx hb hr hP hD hS rfl (Nat.zero_le _) (Nat.zero_le _) hlocks dX6_passes_8
noncomputable def mX6_isMinute (u : KS) (a1 : Int32) : Option (Int32) :=
  (mX6_in (a1.toInt64) 0 (((gI u 5) - 1).toInt64)).bind fun r10 =>
  gd (r10 = 0 ∨ r10 = 1) (some r10)
abbrev rmX6_isMinute : Room := { frames := 1, cells := 0, slots := 0, locals := 25 }
set_option maxRecDepth 100000 in
set_option maxHeartbeats 4000000 in
theorem zX6_isMinute (l : Launch) (D : va_G) (cy : Nat → ClassId) (sa : Nat → Nat) (q : Nat → Nat) (rest : va_W) (sz : Nat) (u : KS) (a1 : Int32) (res : Int32) (hf : mX6_isMinute u a1 = some res) : kMi l yX6_isMinute (wsK yX6_isMinute cX6_isMinute 2 (some .boolean)) rmX6_isMinute D cy sa (WM q cy u ++ rest) sz [.ref (q 0), .int a1] res (WM q cy u ++ rest) 0 0 := by
  refine kM_of (Qc := fun A => kQi D A res (WM q cy u ++ rest)) (cc := cX6_isMinute) (maxL := 2) (ret := (some .boolean)) (by decide) (Nat.le_of_ble_eq_true rfl) ?_
  intro p e s m below meth c A hx hb hml hr hts hown hlocks hin hA hP hD hS hE hsz ls hl
  have hown : s.vm.findClass RX6 = some m.cls := hown
  obtain ⟨H, hH0⟩ : ∃ H, H = s.heap := ⟨_, rfl⟩
  obtain ⟨locs, hlocs0⟩ : ∃ locs : List Loc, locs = [] := ⟨_, rfl⟩
  have hP : va_P D vwCl (WM q cy u ++ rest) H := by rw [hH0]; exact hP
  have hS : va_S A s.heap H locs := by rw [hH0, hlocs0]; exact hS
  have hl : lv_has ls 2 [(0, .ref (q 0)), (1, .int a1)] := hl
  suffices hgoal : W p l e rmX6_isMinute s m ([.ref (q 0), .int a1] : List Value).toArray below meth c H locs 0 0 (MQ below (kQi D A res (WM q cy u ++ rest)) ([.ref (q 0), .int a1] : List Value).toArray s 0 0 A) (F0 m 0 ls []) by rw [hH0, hlocs0] at hgoal; exact hgoal
  clear hH0 hlocs0
  unfold mX6_isMinute at hf
  refine lv_iload_n hx hb dX6_isMinute_0 rfl (lv_at hl 1 rfl) ?_
  refine lv_i2l (v := (a1.toInt64)) hx hb dX6_isMinute_1 rfl ?_
  refine lv_lconst (v := 0) hx hb dX6_isMinute_2 (by decide) ?_
  refine lv_aload_n hx hb dX6_isMinute_3 rfl (lv_at hl 0 rfl) ?_
  refine va_get (ci := 6) (v := .int (gI u 5)) (C := RX6) (T := TX6) (N := 26) hx hb hts inlX6 hown hE.1 hP 0 rfl rfl 14 (by decide) (hts _ wB289) (fun _ h9 => h9) rfl dX6_isMinute_4 ?_
  refine lv_iconst (v := 1) hx hb dX6_isMinute_7 (by decide) ?_
  refine lv_isub hx hb dX6_isMinute_8 ?_
  refine lv_i2l (v := (((gI u 5) - 1).toInt64)) hx hb dX6_isMinute_9 rfl ?_
  obtain ⟨r10, h10r, hf⟩ := o_bs hf
  refine k_goi (va_runS (As := [.long (a1.toInt64), .long 0, .long (((gI u 5) - 1).toInt64)]) (rest := []) ⟨hx, hb, hml, hown, hts⟩ (zX6_in l D cy sa (WM q cy u ++ rest) H.size (a1.toInt64) 0 (((gI u 5) - 1).toInt64)  r10  h10r) (va_cwS 3 hts (gB_S wB141 wB142 wB5 wB143) rfl rfl rfl (by decide +kernel) ⟨Nat.le_of_ble_eq_true rfl, Nat.le_of_ble_eq_true rfl⟩) ⟨kP.blind, k_pre hP hD hS hE hA⟩ rfl rfl hl.1 rfl (lv_room (Nat.le_of_ble_eq_true rfl)) dX6_isMinute_10 ⟨Nat.zero_le _, Nat.zero_le _⟩) hD hS hA (fun H locs hP hD hS => ?_)
  obtain ⟨hgz, hf⟩ := gd_s hf
  obtain rfl := o_ret hf
  exact k_zret (v := _) hx hb hr hP hD hS (k_nar01 hgz) (Nat.zero_le _) (Nat.zero_le _) hlocks dX6_isMinute_13
noncomputable def mX6_gives (u : KS) (a1 : Int32) (a2 : Int32) (a3 : Int32) (a4 : Int32) : Option (Int32 × KS) :=
  (mX6_passes u ((gR u 0) ((4 : Int32).toNatClampNeg))).bind fun r7 =>
  if r7.1 = 0 then
  ((mX6_no r7.2).bind fun r14 =>
  some (r14.1, r14.2))
  else
  ((mX6_in (a1.toInt64) 0 6).bind fun r24 =>
  if r24 = 0 then
  ((mX6_bad r7.2).bind fun r93 =>
  some (r93.1, r93.2))
  else
  ((mX6_in (a2.toInt64) 1 3).bind fun r36 =>
  if r36 = 0 then
  ((mX6_bad r7.2).bind fun r93 =>
  some (r93.1, r93.2))
  else
  ((mX6_in (a4.toInt64) 0 3).bind fun r49 =>
  if r49 = 0 then
  ((mX6_bad r7.2).bind fun r93 =>
  some (r93.1, r93.2))
  else
  ((mX6_isMinute r7.2 a3).bind fun r57 =>
  if r57 = 0 then
  ((mX6_bad r7.2).bind fun r93 =>
  some (r93.1, r93.2))
  else
  ((mX6_given r7.2 (((3 * a1) + a2) - 1) a3 a4).bind fun r86 =>
  some (r86, r7.2))))))
abbrev rmX6_gives : Room := { frames := 5, cells := 0, slots := 0, locals := 117 }
set_option maxRecDepth 100000 in
set_option maxHeartbeats 4000000 in
theorem zX6_gives (l : Launch) (D : va_G) (cy : Nat → ClassId) (sa : Nat → Nat) (q : Nat → Nat) (rest : va_W) (sz : Nat) (u : KS) (a1 : Int32) (a2 : Int32) (a3 : Int32) (a4 : Int32) (res : Int32 × KS) (hf : mX6_gives u a1 a2 a3 a4 = some res) : kMi l yX6_gives (wsK yX6_gives cX6_gives 6 (some .int)) rmX6_gives D cy sa (WM q cy u ++ rest) sz [.ref (q 0), .int a1, .int a2, .int a3, .int a4] res.1 (WM q cy res.2 ++ rest) 0 0 := by
  refine kM_of (Qc := fun A => kQi D A res.1 (WM q cy res.2 ++ rest)) (cc := cX6_gives) (maxL := 6) (ret := (some .int)) (by decide) (Nat.le_of_ble_eq_true rfl) ?_
  intro p e s m below meth c A hx hb hml hr hts hown hlocks hin hA hP hD hS hE hsz ls hl
  have hown : s.vm.findClass RX6 = some m.cls := hown
  obtain ⟨H, hH0⟩ : ∃ H, H = s.heap := ⟨_, rfl⟩
  obtain ⟨locs, hlocs0⟩ : ∃ locs : List Loc, locs = [] := ⟨_, rfl⟩
  have hP : va_P D vwCl (WM q cy u ++ rest) H := by rw [hH0]; exact hP
  have hS : va_S A s.heap H locs := by rw [hH0, hlocs0]; exact hS
  have hl : lv_has ls 6 [(0, .ref (q 0)), (1, .int a1), (2, .int a2), (3, .int a3), (4, .int a4)] := hl
  suffices hgoal : W p l e rmX6_gives s m ([.ref (q 0), .int a1, .int a2, .int a3, .int a4] : List Value).toArray below meth c H locs 0 0 (MQ below (kQi D A res.1 (WM q cy res.2 ++ rest)) ([.ref (q 0), .int a1, .int a2, .int a3, .int a4] : List Value).toArray s 0 0 A) (F0 m 0 ls []) by rw [hH0, hlocs0] at hgoal; exact hgoal
  clear hH0 hlocs0
  unfold mX6_gives at hf
  refine lv_aload_n hx hb dX6_gives_0 rfl (lv_at hl 0 rfl) ?_
  refine lv_aload_n hx hb dX6_gives_1 rfl (lv_at hl 0 rfl) ?_
  refine va_get (ci := 6) (v := .ref (q 1)) (C := RX6) (T := TX6) (N := 26) hx hb hts inlX6 hown hE.1 hP 0 rfl rfl 0 (by decide) (hts _ wB83) (fun _ h9 => h9) rfl dX6_gives_2 ?_
  refine lv_iconst (v := 4) hx hb dX6_gives_5 (by decide) ?_
  refine va_iald (f := (gR u 0)) hx hb hE.1 hP 1 0 rfl rfl (k_in (by decide)) dX6_gives_6 ?_
  obtain ⟨r7, h7r, hf⟩ := o_bs hf
  refine k_goi (va_runV (As := [.int ((gR u 0) ((4 : Int32).toNatClampNeg))]) (rest := []) ⟨hx, hb, hml, hown, hts⟩ (zX6_passes l D cy sa q rest H.size u ((gR u 0) ((4 : Int32).toNatClampNeg)) r7 h7r) (cwV 1 hts (gB_V wB386 wB387 wB388 wB5 wB389) rfl rfl rfl (by decide +kernel) ⟨Nat.le_of_ble_eq_true rfl, Nat.le_of_ble_eq_true rfl⟩) ⟨kP.blind, k_recv hE hP (ci := 6) (q0 := 0) rfl rfl, k_pre hP hD hS hE hA⟩ rfl rfl hl.1 rfl (lv_room (Nat.le_of_ble_eq_true rfl)) dX6_gives_7 ⟨Nat.zero_le _, Nat.zero_le _⟩) hD hS hA (fun H locs hP hD hS => ?_)
  refine lv_if_ne (tgt := 18) hx hb dX6_gives_10 (by decide) (fun c10 => ?_) (fun c10 => ?_)
  · have hf := o_in c10 hf
    refine lv_iload_n hx hb dX6_gives_18 rfl (lv_at hl 1 rfl) ?_
    refine lv_i2l (v := (a1.toInt64)) hx hb dX6_gives_19 rfl ?_
    refine lv_lconst (v := 0) hx hb dX6_gives_20 (by decide) ?_
    refine lv_ldc2 (v := 6) hx hb hown (hts _ wB357) dX6_gives_21 ?_
    obtain ⟨r24, h24r, hf⟩ := o_bs hf
    refine k_goi (va_runS (As := [.long (a1.toInt64), .long 0, .long 6]) (rest := []) ⟨hx, hb, hml, hown, hts⟩ (zX6_in l D cy sa (WM q cy r7.2 ++ rest) H.size (a1.toInt64) 0 6  r24  h24r) (va_cwS 3 hts (gB_S wB141 wB142 wB5 wB143) rfl rfl rfl (by decide +kernel) ⟨Nat.le_of_ble_eq_true rfl, Nat.le_of_ble_eq_true rfl⟩) ⟨kP.blind, k_pre hP hD hS hE hA⟩ rfl rfl hl.1 rfl (lv_room (Nat.le_of_ble_eq_true rfl)) dX6_gives_24 ⟨Nat.zero_le _, Nat.zero_le _⟩) hD hS hA (fun H locs hP hD hS => ?_)
    refine lv_if_eq (tgt := 67) hx hb dX6_gives_27 (by decide) (fun c27 => ?_) (fun c27 => ?_)
    · have hf := o_ip c27 hf
      refine lv_iconst (v := 0) hx hb dX6_gives_67 (by decide) ?_
      refine lv_istore (lv' := [(5, .int 0), (0, .ref (q 0)), (1, .int a1), (2, .int a2), (3, .int a3), (4, .int a4)]) hx hb dX6_gives_68 hl (by decide) rfl (fun ls hl => ?_)
      refine lv_iload hx hb dX6_gives_70 (lv_at hl 0 rfl) ?_
      refine lv_if_eq (tgt := 92) hx hb dX6_gives_72 (by decide) (fun c72 => ?_) (fun c72 => absurd c72 (by decide))
      refine lv_aload_n hx hb dX6_gives_92 rfl (lv_at hl 1 rfl) ?_
      obtain ⟨r93, h93r, hf⟩ := o_bs hf
      refine k_goi (va_runV (As := []) (rest := []) ⟨hx, hb, hml, hown, hts⟩ (zX6_bad l D cy sa q rest H.size r7.2  r93 h93r) (cwV 0 hts (gB_V wB144 wB145 wB146 wB5 wB147) rfl rfl rfl (by decide +kernel) ⟨Nat.le_of_ble_eq_true rfl, Nat.le_of_ble_eq_true rfl⟩) ⟨kP.blind, k_recv hE hP (ci := 6) (q0 := 0) rfl rfl, k_pre hP hD hS hE hA⟩ rfl rfl hl.1 rfl (lv_room (Nat.le_of_ble_eq_true rfl)) dX6_gives_93 ⟨Nat.zero_le _, Nat.zero_le _⟩) hD hS hA (fun H locs hP hD hS => ?_)
      obtain rfl := o_ret hf
      exact k_iret hx hb hr hP hD hS (Nat.zero_le _) (Nat.zero_le _) hlocks dX6_gives_96
    · have hf := o_in c27 hf
      refine lv_iload_n hx hb dX6_gives_30 rfl (lv_at hl 2 rfl) ?_
      refine lv_i2l (v := (a2.toInt64)) hx hb dX6_gives_31 rfl ?_
      refine lv_lconst (v := 1) hx hb dX6_gives_32 (by decide) ?_
      refine lv_ldc2 (v := 3) hx hb hown (hts _ wB376) dX6_gives_33 ?_
      obtain ⟨r36, h36r, hf⟩ := o_bs hf
      refine k_goi (va_runS (As := [.long (a2.toInt64), .long 1, .long 3]) (rest := []) ⟨hx, hb, hml, hown, hts⟩ (zX6_in l D cy sa (WM q cy r7.2 ++ rest) H.size (a2.toInt64) 1 3  r36  h36r) (va_cwS 3 hts (gB_S wB141 wB142 wB5 wB143) rfl rfl rfl (by decide +kernel) ⟨Nat.le_of_ble_eq_true rfl, Nat.le_of_ble_eq_true rfl⟩) ⟨kP.blind, k_pre hP hD hS hE hA⟩ rfl rfl hl.1 rfl (lv_room (Nat.le_of_ble_eq_true rfl)) dX6_gives_36 ⟨Nat.zero_le _, Nat.zero_le _⟩) hD hS hA (fun H locs hP hD hS => ?_)
      refine lv_if_eq (tgt := 67) hx hb dX6_gives_39 (by decide) (fun c39 => ?_) (fun c39 => ?_)
      · have hf := o_ip c39 hf
        refine lv_iconst (v := 0) hx hb dX6_gives_67 (by decide) ?_
        refine lv_istore (lv' := [(5, .int 0), (0, .ref (q 0)), (1, .int a1), (2, .int a2), (3, .int a3), (4, .int a4)]) hx hb dX6_gives_68 hl (by decide) rfl (fun ls hl => ?_)
        refine lv_iload hx hb dX6_gives_70 (lv_at hl 0 rfl) ?_
        refine lv_if_eq (tgt := 92) hx hb dX6_gives_72 (by decide) (fun c72 => ?_) (fun c72 => absurd c72 (by decide))
        refine lv_aload_n hx hb dX6_gives_92 rfl (lv_at hl 1 rfl) ?_
        obtain ⟨r93, h93r, hf⟩ := o_bs hf
        refine k_goi (va_runV (As := []) (rest := []) ⟨hx, hb, hml, hown, hts⟩ (zX6_bad l D cy sa q rest H.size r7.2  r93 h93r) (cwV 0 hts (gB_V wB144 wB145 wB146 wB5 wB147) rfl rfl rfl (by decide +kernel) ⟨Nat.le_of_ble_eq_true rfl, Nat.le_of_ble_eq_true rfl⟩) ⟨kP.blind, k_recv hE hP (ci := 6) (q0 := 0) rfl rfl, k_pre hP hD hS hE hA⟩ rfl rfl hl.1 rfl (lv_room (Nat.le_of_ble_eq_true rfl)) dX6_gives_93 ⟨Nat.zero_le _, Nat.zero_le _⟩) hD hS hA (fun H locs hP hD hS => ?_)
        obtain rfl := o_ret hf
        exact k_iret hx hb hr hP hD hS (Nat.zero_le _) (Nat.zero_le _) hlocks dX6_gives_96
      · have hf := o_in c39 hf
        refine lv_iload hx hb dX6_gives_42 (lv_at hl 4 rfl) ?_
        refine lv_i2l (v := (a4.toInt64)) hx hb dX6_gives_44 rfl ?_
        refine lv_lconst (v := 0) hx hb dX6_gives_45 (by decide) ?_
        refine lv_ldc2 (v := 3) hx hb hown (hts _ wB376) dX6_gives_46 ?_
        obtain ⟨r49, h49r, hf⟩ := o_bs hf
        refine k_goi (va_runS (As := [.long (a4.toInt64), .long 0, .long 3]) (rest := []) ⟨hx, hb, hml, hown, hts⟩ (zX6_in l D cy sa (WM q cy r7.2 ++ rest) H.size (a4.toInt64) 0 3  r49  h49r) (va_cwS 3 hts (gB_S wB141 wB142 wB5 wB143) rfl rfl rfl (by decide +kernel) ⟨Nat.le_of_ble_eq_true rfl, Nat.le_of_ble_eq_true rfl⟩) ⟨kP.blind, k_pre hP hD hS hE hA⟩ rfl rfl hl.1 rfl (lv_room (Nat.le_of_ble_eq_true rfl)) dX6_gives_49 ⟨Nat.zero_le _, Nat.zero_le _⟩) hD hS hA (fun H locs hP hD hS => ?_)
        refine lv_if_eq (tgt := 67) hx hb dX6_gives_52 (by decide) (fun c52 => ?_) (fun c52 => ?_)
        · have hf := o_ip c52 hf
          refine lv_iconst (v := 0) hx hb dX6_gives_67 (by decide) ?_
          refine lv_istore (lv' := [(5, .int 0), (0, .ref (q 0)), (1, .int a1), (2, .int a2), (3, .int a3), (4, .int a4)]) hx hb dX6_gives_68 hl (by decide) rfl (fun ls hl => ?_)
          refine lv_iload hx hb dX6_gives_70 (lv_at hl 0 rfl) ?_
          refine lv_if_eq (tgt := 92) hx hb dX6_gives_72 (by decide) (fun c72 => ?_) (fun c72 => absurd c72 (by decide))
          refine lv_aload_n hx hb dX6_gives_92 rfl (lv_at hl 1 rfl) ?_
          obtain ⟨r93, h93r, hf⟩ := o_bs hf
          refine k_goi (va_runV (As := []) (rest := []) ⟨hx, hb, hml, hown, hts⟩ (zX6_bad l D cy sa q rest H.size r7.2  r93 h93r) (cwV 0 hts (gB_V wB144 wB145 wB146 wB5 wB147) rfl rfl rfl (by decide +kernel) ⟨Nat.le_of_ble_eq_true rfl, Nat.le_of_ble_eq_true rfl⟩) ⟨kP.blind, k_recv hE hP (ci := 6) (q0 := 0) rfl rfl, k_pre hP hD hS hE hA⟩ rfl rfl hl.1 rfl (lv_room (Nat.le_of_ble_eq_true rfl)) dX6_gives_93 ⟨Nat.zero_le _, Nat.zero_le _⟩) hD hS hA (fun H locs hP hD hS => ?_)
          obtain rfl := o_ret hf
          exact k_iret hx hb hr hP hD hS (Nat.zero_le _) (Nat.zero_le _) hlocks dX6_gives_96
        · have hf := o_in c52 hf
          refine lv_aload_n hx hb dX6_gives_55 rfl (lv_at hl 0 rfl) ?_
          refine lv_iload_n hx hb dX6_gives_56 rfl (lv_at hl 3 rfl) ?_
          obtain ⟨r57, h57r, hf⟩ := o_bs hf
          refine k_goi (va_runV (As := [.int a3]) (rest := []) ⟨hx, hb, hml, hown, hts⟩ (zX6_isMinute l D cy sa q rest H.size r7.2 a3 r57 h57r) (cwV 1 hts (gB_V wB438 wB439 wB440 wB5 wB441) rfl rfl rfl (by decide +kernel) ⟨Nat.le_of_ble_eq_true rfl, Nat.le_of_ble_eq_true rfl⟩) ⟨kP.blind, k_recv hE hP (ci := 6) (q0 := 0) rfl rfl, k_pre hP hD hS hE hA⟩ rfl rfl hl.1 rfl (lv_room (Nat.le_of_ble_eq_true rfl)) dX6_gives_57 ⟨Nat.zero_le _, Nat.zero_le _⟩) hD hS hA (fun H locs hP hD hS => ?_)
          refine lv_if_eq (tgt := 67) hx hb dX6_gives_60 (by decide) (fun c60 => ?_) (fun c60 => ?_)
          · have hf := o_ip c60 hf
            refine lv_iconst (v := 0) hx hb dX6_gives_67 (by decide) ?_
            refine lv_istore (lv' := [(5, .int 0), (0, .ref (q 0)), (1, .int a1), (2, .int a2), (3, .int a3), (4, .int a4)]) hx hb dX6_gives_68 hl (by decide) rfl (fun ls hl => ?_)
            refine lv_iload hx hb dX6_gives_70 (lv_at hl 0 rfl) ?_
            refine lv_if_eq (tgt := 92) hx hb dX6_gives_72 (by decide) (fun c72 => ?_) (fun c72 => absurd c72 (by decide))
            refine lv_aload_n hx hb dX6_gives_92 rfl (lv_at hl 1 rfl) ?_
            obtain ⟨r93, h93r, hf⟩ := o_bs hf
            refine k_goi (va_runV (As := []) (rest := []) ⟨hx, hb, hml, hown, hts⟩ (zX6_bad l D cy sa q rest H.size r7.2  r93 h93r) (cwV 0 hts (gB_V wB144 wB145 wB146 wB5 wB147) rfl rfl rfl (by decide +kernel) ⟨Nat.le_of_ble_eq_true rfl, Nat.le_of_ble_eq_true rfl⟩) ⟨kP.blind, k_recv hE hP (ci := 6) (q0 := 0) rfl rfl, k_pre hP hD hS hE hA⟩ rfl rfl hl.1 rfl (lv_room (Nat.le_of_ble_eq_true rfl)) dX6_gives_93 ⟨Nat.zero_le _, Nat.zero_le _⟩) hD hS hA (fun H locs hP hD hS => ?_)
            obtain rfl := o_ret hf
            exact k_iret hx hb hr hP hD hS (Nat.zero_le _) (Nat.zero_le _) hlocks dX6_gives_96
          · have hf := o_in c60 hf
            refine lv_iconst (v := 1) hx hb dX6_gives_63 (by decide) ?_
            refine lv_goto (tgt := 68) hx hb dX6_gives_64 (by decide) ?_
            refine lv_istore (lv' := [(5, .int 1), (0, .ref (q 0)), (1, .int a1), (2, .int a2), (3, .int a3), (4, .int a4)]) hx hb dX6_gives_68 hl (by decide) rfl (fun ls hl => ?_)
            refine lv_iload hx hb dX6_gives_70 (lv_at hl 0 rfl) ?_
            refine lv_if_eq (tgt := 92) hx hb dX6_gives_72 (by decide) (fun c72 => absurd c72 (by decide)) (fun c72 => ?_)
            refine lv_aload_n hx hb dX6_gives_75 rfl (lv_at hl 1 rfl) ?_
            refine lv_iconst (v := 3) hx hb dX6_gives_76 (by decide) ?_
            refine lv_iload_n hx hb dX6_gives_77 rfl (lv_at hl 2 rfl) ?_
            refine lv_imul hx hb dX6_gives_78 ?_
            refine lv_iload_n hx hb dX6_gives_79 rfl (lv_at hl 3 rfl) ?_
            refine lv_iadd hx hb dX6_gives_80 ?_
            refine lv_iconst (v := 1) hx hb dX6_gives_81 (by decide) ?_
            refine lv_isub hx hb dX6_gives_82 ?_
            refine lv_iload_n hx hb dX6_gives_83 rfl (lv_at hl 4 rfl) ?_
            refine lv_iload hx hb dX6_gives_84 (lv_at hl 5 rfl) ?_
            obtain ⟨r86, h86r, hf⟩ := o_bs hf
            refine k_goi (va_runV (As := [.int (((3 * a1) + a2) - 1), .int a3, .int a4]) (rest := []) ⟨hx, hb, hml, hown, hts⟩ (zX6_given l D cy sa q rest H.size r7.2 (((3 * a1) + a2) - 1) a3 a4 r86 h86r) (cwV 3 hts (gB_V wB442 wB443 wB444 wB5 wB445) rfl rfl rfl (by decide +kernel) ⟨Nat.le_of_ble_eq_true rfl, Nat.le_of_ble_eq_true rfl⟩) ⟨kP.blind, k_recv hE hP (ci := 6) (q0 := 0) rfl rfl, k_pre hP hD hS hE hA⟩ rfl rfl hl.1 rfl (lv_room (Nat.le_of_ble_eq_true rfl)) dX6_gives_86 ⟨Nat.zero_le _, Nat.zero_le _⟩) hD hS hA (fun H locs hP hD hS => ?_)
            refine lv_goto (tgt := 96) hx hb dX6_gives_89 (by decide) ?_
            obtain rfl := o_ret hf
            exact k_iret hx hb hr hP hD hS (Nat.zero_le _) (Nat.zero_le _) hlocks dX6_gives_96
  · have hf := o_ip c10 hf
    refine lv_aload_n hx hb dX6_gives_13 rfl (lv_at hl 0 rfl) ?_
    obtain ⟨r14, h14r, hf⟩ := o_bs hf
    refine k_goi (va_runV (As := []) (rest := []) ⟨hx, hb, hml, hown, hts⟩ (zX6_no l D cy sa q rest H.size r7.2  r14 h14r) (cwV 0 hts (gB_V wB328 wB329 wB330 wB5 wB331) rfl rfl rfl (by decide +kernel) ⟨Nat.le_of_ble_eq_true rfl, Nat.le_of_ble_eq_true rfl⟩) ⟨kP.blind, k_recv hE hP (ci := 6) (q0 := 0) rfl rfl, k_pre hP hD hS hE hA⟩ rfl rfl hl.1 rfl (lv_room (Nat.le_of_ble_eq_true rfl)) dX6_gives_14 ⟨Nat.zero_le _, Nat.zero_le _⟩) hD hS hA (fun H locs hP hD hS => ?_)
    obtain rfl := o_ret hf
    exact k_iret hx hb hr hP hD hS (Nat.zero_le _) (Nat.zero_le _) hlocks dX6_gives_17
noncomputable def mX6_smokeOf_s6 (u : KS) (c1 : Int32) (c2 : Int32) (c3 : Int32) (s6 : Int32 × Int32) : Option ((Int32) ⊕ (Int32 × Int32)) :=
  if 4 ≤ s6.2 then
  (some (.inl s6.1))
  else
  (if s6.2 = c3 then
  (some (.inr ((s6.1 + 0), (s6.2 + 1))))
  else
  (gd (inb (15 + s6.2) 200) ((mX6_given u ((gR u 0) ((15 + s6.2).toNatClampNeg)) c1 c2).bind fun r37 =>
  some (.inr ((s6.1 + r37), (s6.2 + 1))))))
noncomputable def mX6_smokeOf (u : KS) (a1 : Int32) (a2 : Int32) (a3 : Int32) : Option (Int32) :=
  (lpF (mX6_smokeOf_s6 u a1 a2 a3) (0, 0)).bind fun e6 =>
  some e6
abbrev rmX6_smokeOf : Room := { frames := 1, cells := 0, slots := 0, locals := 23 }
set_option maxRecDepth 100000 in
set_option maxHeartbeats 4000000 in
theorem zX6_smokeOf (l : Launch) (D : va_G) (cy : Nat → ClassId) (sa : Nat → Nat) (q : Nat → Nat) (rest : va_W) (sz : Nat) (u : KS) (a1 : Int32) (a2 : Int32) (a3 : Int32) (res : Int32) (hf : mX6_smokeOf u a1 a2 a3 = some res) : kMi l yX6_smokeOf (wsK yX6_smokeOf cX6_smokeOf 6 (some .int)) rmX6_smokeOf D cy sa (WM q cy u ++ rest) sz [.ref (q 0), .int a1, .int a2, .int a3] res (WM q cy u ++ rest) 0 0 := by
  refine kM_of (Qc := fun A => kQi D A res (WM q cy u ++ rest)) (cc := cX6_smokeOf) (maxL := 6) (ret := (some .int)) (by decide) (Nat.le_of_ble_eq_true rfl) ?_
  intro p e s m below meth c A hx hb hml hr hts hown hlocks hin hA hP hD hS hE hsz ls hl
  have hown : s.vm.findClass RX6 = some m.cls := hown
  obtain ⟨H, hH0⟩ : ∃ H, H = s.heap := ⟨_, rfl⟩
  obtain ⟨locs, hlocs0⟩ : ∃ locs : List Loc, locs = [] := ⟨_, rfl⟩
  have hP : va_P D vwCl (WM q cy u ++ rest) H := by rw [hH0]; exact hP
  have hS : va_S A s.heap H locs := by rw [hH0, hlocs0]; exact hS
  have hl : lv_has ls 6 [(0, .ref (q 0)), (1, .int a1), (2, .int a2), (3, .int a3)] := hl
  suffices hgoal : W p l e rmX6_smokeOf s m ([.ref (q 0), .int a1, .int a2, .int a3] : List Value).toArray below meth c H locs 0 0 (MQ below (kQi D A res (WM q cy u ++ rest)) ([.ref (q 0), .int a1, .int a2, .int a3] : List Value).toArray s 0 0 A) (F0 m 0 ls []) by rw [hH0, hlocs0] at hgoal; exact hgoal
  clear hH0 hlocs0
  unfold mX6_smokeOf at hf
  refine lv_iconst (v := 0) hx hb dX6_smokeOf_0 (by decide) ?_
  refine lv_istore (lv' := [(4, .int 0), (0, .ref (q 0)), (1, .int a1), (2, .int a2), (3, .int a3)]) hx hb dX6_smokeOf_1 hl (by decide) rfl (fun ls hl => ?_)
  refine lv_iconst (v := 0) hx hb dX6_smokeOf_3 (by decide) ?_
  refine lv_istore (lv' := [(5, .int 0), (4, .int 0), (0, .ref (q 0)), (1, .int a1), (2, .int a2), (3, .int a3)]) hx hb dX6_smokeOf_4 hl (by decide) rfl (fun ls hl => ?_)
  have L6 : ∀ (n6v : Nat) (s6 : Int32 × Int32) (e6 : Int32), lpO (mX6_smokeOf_s6 u a1 a2 a3) n6v s6 = some e6 → ∀ (H : Heap) (locs : List Loc) (ls : Array Slot), va_P D vwCl (WM q cy u ++ rest) H → va_D A (WM q cy u ++ rest) → va_S A s.heap H locs → lv_has ls 6 [(0, .ref (q 0)), (1, .int a1), (2, .int a2), (3, .int a3), (4, .int s6.1), (5, .int s6.2)] → (∀ (H : Heap) (locs : List Loc) (ls : Array Slot), va_P D vwCl (WM q cy u ++ rest) H → va_D A (WM q cy u ++ rest) → va_S A s.heap H locs → lv_has ls 6 [(4, .int e6)] → W p l e rmX6_smokeOf s m ([.ref (q 0), .int a1, .int a2, .int a3] : List Value).toArray below meth c H locs 0 0 (MQ below (kQi D A res (WM q cy u ++ rest)) ([.ref (q 0), .int a1, .int a2, .int a3] : List Value).toArray s 0 0 A) (F0 m 49 ls [])) → W p l e rmX6_smokeOf s m ([.ref (q 0), .int a1, .int a2, .int a3] : List Value).toArray below meth c H locs 0 0 (MQ below (kQi D A res (WM q cy u ++ rest)) ([.ref (q 0), .int a1, .int a2, .int a3] : List Value).toArray s 0 0 A) (F0 m 6 ls []) := by
    intro n6v
    induction n6v with
    | zero => intro s6 e6 h; exact (lpO_z h).elim
    | succ n6v ih6 =>
      intro s6 e6 h6z H locs ls hP hD hS hl K6_0
      obtain ⟨x6, hf, h6z⟩ := lpO_s h6z
      unfold mX6_smokeOf_s6 at hf
      refine lv_iload hx hb dX6_smokeOf_6 (lv_at hl 5 rfl) ?_
      refine lv_iconst (v := 4) hx hb dX6_smokeOf_8 (by decide) ?_
      refine lv_icmp_ge (tgt := 49) hx hb dX6_smokeOf_9 (by decide) (fun c9 => ?_) (fun c9 => ?_)
      · have hf := o_ip c9 hf
        obtain rfl := o_ret hf
        obtain rfl := lpK_l h6z
        exact K6_0 _ _ _ hP hD hS (lv_sub hl [4] rfl)
      · have hf := o_in c9 hf
        refine lv_iload hx hb dX6_smokeOf_12 (lv_at hl 4 rfl) ?_
        refine lv_iload hx hb dX6_smokeOf_14 (lv_at hl 5 rfl) ?_
        refine lv_iload_n hx hb dX6_smokeOf_16 rfl (lv_at hl 3 rfl) ?_
        refine lv_icmp_ne (tgt := 24) hx hb dX6_smokeOf_17 (by decide) (fun c17 => ?_) (fun c17 => ?_)
        · have hf := o_in c17 hf
          refine lv_aload_n hx hb dX6_smokeOf_24 rfl (lv_at hl 0 rfl) ?_
          refine lv_aload_n hx hb dX6_smokeOf_25 rfl (lv_at hl 0 rfl) ?_
          refine va_get (ci := 6) (v := .ref (q 1)) (C := RX6) (T := TX6) (N := 26) hx hb hts inlX6 hown hE.1 hP 0 rfl rfl 0 (by decide) (hts _ wB83) (fun _ h9 => h9) rfl dX6_smokeOf_26 ?_
          refine lv_bipush (v := 15) hx hb dX6_smokeOf_29 (by decide) ?_
          refine lv_iload hx hb dX6_smokeOf_31 (lv_at hl 5 rfl) ?_
          refine lv_iadd hx hb dX6_smokeOf_33 ?_
          obtain ⟨hg34, hf⟩ := gd_s hf
          refine va_iald (f := (gR u 0)) hx hb hE.1 hP 1 0 rfl rfl hg34 dX6_smokeOf_34 ?_
          refine lv_iload_n hx hb dX6_smokeOf_35 rfl (lv_at hl 1 rfl) ?_
          refine lv_iload_n hx hb dX6_smokeOf_36 rfl (lv_at hl 2 rfl) ?_
          obtain ⟨r37, h37r, hf⟩ := o_bs hf
          refine k_goi (va_runV (As := [.int ((gR u 0) ((15 + s6.2).toNatClampNeg)), .int a1, .int a2]) (rest := [.int s6.1]) ⟨hx, hb, hml, hown, hts⟩ (zX6_given l D cy sa q rest H.size u ((gR u 0) ((15 + s6.2).toNatClampNeg)) a1 a2 r37 h37r) (cwV 3 hts (gB_V wB442 wB443 wB444 wB5 wB445) rfl rfl rfl (by decide +kernel) ⟨Nat.le_of_ble_eq_true rfl, Nat.le_of_ble_eq_true rfl⟩) ⟨kP.blind, k_recv hE hP (ci := 6) (q0 := 0) rfl rfl, k_pre hP hD hS hE hA⟩ rfl rfl hl.1 rfl (lv_room (Nat.le_of_ble_eq_true rfl)) dX6_smokeOf_37 ⟨Nat.zero_le _, Nat.zero_le _⟩) hD hS hA (fun H locs hP hD hS => ?_)
          refine lv_iadd hx hb dX6_smokeOf_40 ?_
          refine lv_istore (lv' := [(4, .int (s6.1 + r37)), (0, .ref (q 0)), (1, .int a1), (2, .int a2), (3, .int a3), (5, .int s6.2)]) hx hb dX6_smokeOf_41 hl (by decide) rfl (fun ls hl => ?_)
          refine lv_iinc (v := (s6.2 + 1)) (lv' := [(5, .int (s6.2 + 1)), (4, .int (s6.1 + r37)), (0, .ref (q 0)), (1, .int a1), (2, .int a2), (3, .int a3)]) hx hb dX6_smokeOf_43 hl (k := 5) rfl (by rfl) (by decide) rfl (fun ls hl => ?_)
          refine lv_goto (tgt := 6) hx hb dX6_smokeOf_46 (by decide) ?_
          obtain rfl := o_ret hf
          exact ih6 _ _ (lpK_r h6z) _ _ _ hP hD hS (lv_sub hl [2, 3, 4, 5, 1, 0] rfl) K6_0
        · have hf := o_ip c17 hf
          refine lv_iconst (v := 0) hx hb dX6_smokeOf_20 (by decide) ?_
          refine lv_goto (tgt := 40) hx hb dX6_smokeOf_21 (by decide) ?_
          refine lv_iadd hx hb dX6_smokeOf_40 ?_
          refine lv_istore (lv' := [(4, .int (s6.1 + 0)), (0, .ref (q 0)), (1, .int a1), (2, .int a2), (3, .int a3), (5, .int s6.2)]) hx hb dX6_smokeOf_41 hl (by decide) rfl (fun ls hl => ?_)
          refine lv_iinc (v := (s6.2 + 1)) (lv' := [(5, .int (s6.2 + 1)), (4, .int (s6.1 + 0)), (0, .ref (q 0)), (1, .int a1), (2, .int a2), (3, .int a3)]) hx hb dX6_smokeOf_43 hl (k := 5) rfl (by rfl) (by decide) rfl (fun ls hl => ?_)
          refine lv_goto (tgt := 6) hx hb dX6_smokeOf_46 (by decide) ?_
          obtain rfl := o_ret hf
          exact ih6 _ _ (lpK_r h6z) _ _ _ hP hD hS (lv_sub hl [2, 3, 4, 5, 1, 0] rfl) K6_0
  obtain ⟨e6, h6q, hf⟩ := o_bs hf
  obtain ⟨n6v, h6q⟩ := lpF_ex h6q
  refine L6 n6v _ e6 h6q _ _ _ hP hD hS (lv_sub hl [2, 3, 4, 5, 1, 0] rfl) ?_
  intro H locs ls hP hD hS hl
  refine lv_iload hx hb dX6_smokeOf_49 (lv_at hl 0 rfl) ?_
  obtain rfl := o_ret hf
  exact k_iret hx hb hr hP hD hS (Nat.zero_le _) (Nat.zero_le _) hlocks dX6_smokeOf_51
noncomputable def mX6_goes_s37 (u : KS) (c1 : Int32) (s37 : Int32 × Int32) : Option ((Int32) ⊕ (Int32 × Int32)) :=
  if (gI u 5) ≤ s37.2 then
  (some (.inl s37.1))
  else
  ((mX6_smokeOf u s37.2 c1 (-1)).bind fun r50 =>
  some (.inr ((s37.1 + r50), (s37.2 + 1))))
noncomputable def mX6_goes (u : KS) (a1 : Int32) : Option (Int32 × KS) :=
  (mX6_in (a1.toInt64) 0 1).bind fun r4 =>
  if r4 = 0 then
  ((mX6_bad u).bind fun r11 =>
  some (r11.1, r11.2))
  else
  ((mX6_passes u ((gR u 0) ((4 : Int32).toNatClampNeg))).bind fun r22 =>
  if r22.1 = 0 then
  ((mX6_no r22.2).bind fun r29 =>
  some (r29.1, r29.2))
  else
  ((lpF (mX6_goes_s37 r22.2 a1) (0, 0)).bind fun e37 =>
  some (e37, r22.2)))
abbrev rmX6_goes : Room := { frames := 5, cells := 0, slots := 0, locals := 117 }
set_option maxRecDepth 100000 in
set_option maxHeartbeats 4000000 in
theorem zX6_goes (l : Launch) (D : va_G) (cy : Nat → ClassId) (sa : Nat → Nat) (q : Nat → Nat) (rest : va_W) (sz : Nat) (u : KS) (a1 : Int32) (res : Int32 × KS) (hf : mX6_goes u a1 = some res) : kMi l yX6_goes (wsK yX6_goes cX6_goes 4 (some .int)) rmX6_goes D cy sa (WM q cy u ++ rest) sz [.ref (q 0), .int a1] res.1 (WM q cy res.2 ++ rest) 0 0 := by
  refine kM_of (Qc := fun A => kQi D A res.1 (WM q cy res.2 ++ rest)) (cc := cX6_goes) (maxL := 4) (ret := (some .int)) (by decide) (Nat.le_of_ble_eq_true rfl) ?_
  intro p e s m below meth c A hx hb hml hr hts hown hlocks hin hA hP hD hS hE hsz ls hl
  have hown : s.vm.findClass RX6 = some m.cls := hown
  obtain ⟨H, hH0⟩ : ∃ H, H = s.heap := ⟨_, rfl⟩
  obtain ⟨locs, hlocs0⟩ : ∃ locs : List Loc, locs = [] := ⟨_, rfl⟩
  have hP : va_P D vwCl (WM q cy u ++ rest) H := by rw [hH0]; exact hP
  have hS : va_S A s.heap H locs := by rw [hH0, hlocs0]; exact hS
  have hl : lv_has ls 4 [(0, .ref (q 0)), (1, .int a1)] := hl
  suffices hgoal : W p l e rmX6_goes s m ([.ref (q 0), .int a1] : List Value).toArray below meth c H locs 0 0 (MQ below (kQi D A res.1 (WM q cy res.2 ++ rest)) ([.ref (q 0), .int a1] : List Value).toArray s 0 0 A) (F0 m 0 ls []) by rw [hH0, hlocs0] at hgoal; exact hgoal
  clear hH0 hlocs0
  unfold mX6_goes at hf
  refine lv_iload_n hx hb dX6_goes_0 rfl (lv_at hl 1 rfl) ?_
  refine lv_i2l (v := (a1.toInt64)) hx hb dX6_goes_1 rfl ?_
  refine lv_lconst (v := 0) hx hb dX6_goes_2 (by decide) ?_
  refine lv_lconst (v := 1) hx hb dX6_goes_3 (by decide) ?_
  obtain ⟨r4, h4r, hf⟩ := o_bs hf
  refine k_goi (va_runS (As := [.long (a1.toInt64), .long 0, .long 1]) (rest := []) ⟨hx, hb, hml, hown, hts⟩ (zX6_in l D cy sa (WM q cy u ++ rest) H.size (a1.toInt64) 0 1  r4  h4r) (va_cwS 3 hts (gB_S wB141 wB142 wB5 wB143) rfl rfl rfl (by decide +kernel) ⟨Nat.le_of_ble_eq_true rfl, Nat.le_of_ble_eq_true rfl⟩) ⟨kP.blind, k_pre hP hD hS hE hA⟩ rfl rfl hl.1 rfl (lv_room (Nat.le_of_ble_eq_true rfl)) dX6_goes_4 ⟨Nat.zero_le _, Nat.zero_le _⟩) hD hS hA (fun H locs hP hD hS => ?_)
  refine lv_if_ne (tgt := 15) hx hb dX6_goes_7 (by decide) (fun c7 => ?_) (fun c7 => ?_)
  · have hf := o_in c7 hf
    refine lv_aload_n hx hb dX6_goes_15 rfl (lv_at hl 0 rfl) ?_
    refine lv_aload_n hx hb dX6_goes_16 rfl (lv_at hl 0 rfl) ?_
    refine va_get (ci := 6) (v := .ref (q 1)) (C := RX6) (T := TX6) (N := 26) hx hb hts inlX6 hown hE.1 hP 0 rfl rfl 0 (by decide) (hts _ wB83) (fun _ h9 => h9) rfl dX6_goes_17 ?_
    refine lv_iconst (v := 4) hx hb dX6_goes_20 (by decide) ?_
    refine va_iald (f := (gR u 0)) hx hb hE.1 hP 1 0 rfl rfl (k_in (by decide)) dX6_goes_21 ?_
    obtain ⟨r22, h22r, hf⟩ := o_bs hf
    refine k_goi (va_runV (As := [.int ((gR u 0) ((4 : Int32).toNatClampNeg))]) (rest := []) ⟨hx, hb, hml, hown, hts⟩ (zX6_passes l D cy sa q rest H.size u ((gR u 0) ((4 : Int32).toNatClampNeg)) r22 h22r) (cwV 1 hts (gB_V wB386 wB387 wB388 wB5 wB389) rfl rfl rfl (by decide +kernel) ⟨Nat.le_of_ble_eq_true rfl, Nat.le_of_ble_eq_true rfl⟩) ⟨kP.blind, k_recv hE hP (ci := 6) (q0 := 0) rfl rfl, k_pre hP hD hS hE hA⟩ rfl rfl hl.1 rfl (lv_room (Nat.le_of_ble_eq_true rfl)) dX6_goes_22 ⟨Nat.zero_le _, Nat.zero_le _⟩) hD hS hA (fun H locs hP hD hS => ?_)
    refine lv_if_ne (tgt := 33) hx hb dX6_goes_25 (by decide) (fun c25 => ?_) (fun c25 => ?_)
    · have hf := o_in c25 hf
      refine lv_iconst (v := 0) hx hb dX6_goes_33 (by decide) ?_
      refine lv_istore_n (lv' := [(2, .int 0), (0, .ref (q 0)), (1, .int a1)]) hx hb dX6_goes_34 rfl hl (by decide) rfl (fun ls hl => ?_)
      refine lv_iconst (v := 0) hx hb dX6_goes_35 (by decide) ?_
      refine lv_istore_n (lv' := [(3, .int 0), (2, .int 0), (0, .ref (q 0)), (1, .int a1)]) hx hb dX6_goes_36 rfl hl (by decide) rfl (fun ls hl => ?_)
      have L37 : ∀ (n37v : Nat) (s37 : Int32 × Int32) (e37 : Int32), lpO (mX6_goes_s37 r22.2 a1) n37v s37 = some e37 → ∀ (H : Heap) (locs : List Loc) (ls : Array Slot), va_P D vwCl (WM q cy r22.2 ++ rest) H → va_D A (WM q cy r22.2 ++ rest) → va_S A s.heap H locs → lv_has ls 4 [(0, .ref (q 0)), (1, .int a1), (2, .int s37.1), (3, .int s37.2)] → (∀ (H : Heap) (locs : List Loc) (ls : Array Slot), va_P D vwCl (WM q cy r22.2 ++ rest) H → va_D A (WM q cy r22.2 ++ rest) → va_S A s.heap H locs → lv_has ls 4 [(2, .int e37)] → W p l e rmX6_goes s m ([.ref (q 0), .int a1] : List Value).toArray below meth c H locs 0 0 (MQ below (kQi D A res.1 (WM q cy res.2 ++ rest)) ([.ref (q 0), .int a1] : List Value).toArray s 0 0 A) (F0 m 61 ls [])) → W p l e rmX6_goes s m ([.ref (q 0), .int a1] : List Value).toArray below meth c H locs 0 0 (MQ below (kQi D A res.1 (WM q cy res.2 ++ rest)) ([.ref (q 0), .int a1] : List Value).toArray s 0 0 A) (F0 m 37 ls []) := by
        intro n37v
        induction n37v with
        | zero => intro s37 e37 h; exact (lpO_z h).elim
        | succ n37v ih37 =>
          intro s37 e37 h37z H locs ls hP hD hS hl K37_0
          obtain ⟨x37, hf, h37z⟩ := lpO_s h37z
          unfold mX6_goes_s37 at hf
          refine lv_iload_n hx hb dX6_goes_37 rfl (lv_at hl 3 rfl) ?_
          refine lv_aload_n hx hb dX6_goes_38 rfl (lv_at hl 0 rfl) ?_
          refine va_get (ci := 6) (v := .int (gI r22.2 5)) (C := RX6) (T := TX6) (N := 26) hx hb hts inlX6 hown hE.1 hP 0 rfl rfl 14 (by decide) (hts _ wB289) (fun _ h9 => h9) rfl dX6_goes_39 ?_
          refine lv_icmp_ge (tgt := 61) hx hb dX6_goes_42 (by decide) (fun c42 => ?_) (fun c42 => ?_)
          · have hf := o_ip c42 hf
            obtain rfl := o_ret hf
            obtain rfl := lpK_l h37z
            exact K37_0 _ _ _ hP hD hS (lv_sub hl [2] rfl)
          · have hf := o_in c42 hf
            refine lv_iload_n hx hb dX6_goes_45 rfl (lv_at hl 2 rfl) ?_
            refine lv_aload_n hx hb dX6_goes_46 rfl (lv_at hl 0 rfl) ?_
            refine lv_iload_n hx hb dX6_goes_47 rfl (lv_at hl 3 rfl) ?_
            refine lv_iload_n hx hb dX6_goes_48 rfl (lv_at hl 1 rfl) ?_
            refine lv_iconst (v := (-1)) hx hb dX6_goes_49 (by decide) ?_
            obtain ⟨r50, h50r, hf⟩ := o_bs hf
            refine k_goi (va_runV (As := [.int s37.2, .int a1, .int (-1)]) (rest := [.int s37.1]) ⟨hx, hb, hml, hown, hts⟩ (zX6_smokeOf l D cy sa q rest H.size r22.2 s37.2 a1 (-1) r50 h50r) (cwV 3 hts (gB_V wB462 wB463 wB464 wB5 wB465) rfl rfl rfl (by decide +kernel) ⟨Nat.le_of_ble_eq_true rfl, Nat.le_of_ble_eq_true rfl⟩) ⟨kP.blind, k_recv hE hP (ci := 6) (q0 := 0) rfl rfl, k_pre hP hD hS hE hA⟩ rfl rfl hl.1 rfl (lv_room (Nat.le_of_ble_eq_true rfl)) dX6_goes_50 ⟨Nat.zero_le _, Nat.zero_le _⟩) hD hS hA (fun H locs hP hD hS => ?_)
            refine lv_iadd hx hb dX6_goes_53 ?_
            refine lv_istore_n (lv' := [(2, .int (s37.1 + r50)), (0, .ref (q 0)), (1, .int a1), (3, .int s37.2)]) hx hb dX6_goes_54 rfl hl (by decide) rfl (fun ls hl => ?_)
            refine lv_iinc (v := (s37.2 + 1)) (lv' := [(3, .int (s37.2 + 1)), (2, .int (s37.1 + r50)), (0, .ref (q 0)), (1, .int a1)]) hx hb dX6_goes_55 hl (k := 3) rfl (by rfl) (by decide) rfl (fun ls hl => ?_)
            refine lv_goto (tgt := 37) hx hb dX6_goes_58 (by decide) ?_
            obtain rfl := o_ret hf
            exact ih37 _ _ (lpK_r h37z) _ _ _ hP hD hS (lv_sub hl [2, 3, 1, 0] rfl) K37_0
      obtain ⟨e37, h37q, hf⟩ := o_bs hf
      obtain ⟨n37v, h37q⟩ := lpF_ex h37q
      refine L37 n37v _ e37 h37q _ _ _ hP hD hS (lv_sub hl [2, 3, 1, 0] rfl) ?_
      intro H locs ls hP hD hS hl
      refine lv_iload_n hx hb dX6_goes_61 rfl (lv_at hl 0 rfl) ?_
      obtain rfl := o_ret hf
      exact k_iret hx hb hr hP hD hS (Nat.zero_le _) (Nat.zero_le _) hlocks dX6_goes_62
    · have hf := o_ip c25 hf
      refine lv_aload_n hx hb dX6_goes_28 rfl (lv_at hl 0 rfl) ?_
      obtain ⟨r29, h29r, hf⟩ := o_bs hf
      refine k_goi (va_runV (As := []) (rest := []) ⟨hx, hb, hml, hown, hts⟩ (zX6_no l D cy sa q rest H.size r22.2  r29 h29r) (cwV 0 hts (gB_V wB328 wB329 wB330 wB5 wB331) rfl rfl rfl (by decide +kernel) ⟨Nat.le_of_ble_eq_true rfl, Nat.le_of_ble_eq_true rfl⟩) ⟨kP.blind, k_recv hE hP (ci := 6) (q0 := 0) rfl rfl, k_pre hP hD hS hE hA⟩ rfl rfl hl.1 rfl (lv_room (Nat.le_of_ble_eq_true rfl)) dX6_goes_29 ⟨Nat.zero_le _, Nat.zero_le _⟩) hD hS hA (fun H locs hP hD hS => ?_)
      obtain rfl := o_ret hf
      exact k_iret hx hb hr hP hD hS (Nat.zero_le _) (Nat.zero_le _) hlocks dX6_goes_32
  · have hf := o_ip c7 hf
    refine lv_aload_n hx hb dX6_goes_10 rfl (lv_at hl 0 rfl) ?_
    obtain ⟨r11, h11r, hf⟩ := o_bs hf
    refine k_goi (va_runV (As := []) (rest := []) ⟨hx, hb, hml, hown, hts⟩ (zX6_bad l D cy sa q rest H.size u  r11 h11r) (cwV 0 hts (gB_V wB144 wB145 wB146 wB5 wB147) rfl rfl rfl (by decide +kernel) ⟨Nat.le_of_ble_eq_true rfl, Nat.le_of_ble_eq_true rfl⟩) ⟨kP.blind, k_recv hE hP (ci := 6) (q0 := 0) rfl rfl, k_pre hP hD hS hE hA⟩ rfl rfl hl.1 rfl (lv_room (Nat.le_of_ble_eq_true rfl)) dX6_goes_11 ⟨Nat.zero_le _, Nat.zero_le _⟩) hD hS hA (fun H locs hP hD hS => ?_)
    obtain rfl := o_ret hf
    exact k_iret hx hb hr hP hD hS (Nat.zero_le _) (Nat.zero_le _) hlocks dX6_goes_14
noncomputable def mX6_sets_s3 (c1 : Int32) (c2 : Int64) (s3 : Int32 × KS) : Option ((KS) ⊕ (Int32 × KS)) :=
  if 12 ≤ s3.1 then
  (some (.inl s3.2))
  else
  (if 3 ≤ s3.1 then
  (gd (inb ((12 * c1) + s3.1) 84) (some (.inr ((s3.1 + 1), (sR s3.2 4 (upd (gR s3.2 4) (((12 * c1) + s3.1).toNatClampNeg) 0))))))
  else
  (gd (inb ((12 * c1) + s3.1) 84) (some (.inr ((s3.1 + 1), (sR s3.2 4 (upd (gR s3.2 4) (((12 * c1) + s3.1).toNatClampNeg) (((c2 >>> ((30 * s3.1).toInt64 &&& 63)) &&& 1073741823).toInt32))))))))
noncomputable def mX6_sets (u : KS) (a1 : Int32) (a2 : Int64) : Option (KS) :=
  (lpF (mX6_sets_s3 a1 a2) (0, u)).bind fun e3 =>
  gd (inb a1 7) ((mX6_trims (sR e3 5 (upd (gR e3 5) (a1.toNatClampNeg) 3)) a1).bind fun r59 =>
  some r59)
abbrev rmX6_sets : Room := { frames := 1, cells := 0, slots := 0, locals := 21 }
set_option maxRecDepth 100000 in
set_option maxHeartbeats 4000000 in
theorem zX6_sets (l : Launch) (D : va_G) (cy : Nat → ClassId) (sa : Nat → Nat) (q : Nat → Nat) (rest : va_W) (sz : Nat) (u : KS) (a1 : Int32) (a2 : Int64) (res : KS) (hf : mX6_sets u a1 a2 = some res) : kMv l yX6_sets (wsK yX6_sets cX6_sets 5 none) rmX6_sets D cy sa (WM q cy u ++ rest) sz [.ref (q 0), .int a1, .long a2] (WM q cy res ++ rest) 0 0 := by
  refine kM_of (Qc := fun A => kQv D A (WM q cy res ++ rest)) (cc := cX6_sets) (maxL := 5) (ret := none) (by decide) (Nat.le_of_ble_eq_true rfl) ?_
  intro p e s m below meth c A hx hb hml hr hts hown hlocks hin hA hP hD hS hE hsz ls hl
  have hown : s.vm.findClass RX6 = some m.cls := hown
  obtain ⟨H, hH0⟩ : ∃ H, H = s.heap := ⟨_, rfl⟩
  obtain ⟨locs, hlocs0⟩ : ∃ locs : List Loc, locs = [] := ⟨_, rfl⟩
  have hP : va_P D vwCl (WM q cy u ++ rest) H := by rw [hH0]; exact hP
  have hS : va_S A s.heap H locs := by rw [hH0, hlocs0]; exact hS
  have hl : lv_has ls 5 [(0, .ref (q 0)), (1, .int a1), (2, .long a2)] := hl
  suffices hgoal : W p l e rmX6_sets s m ([.ref (q 0), .int a1, .long a2] : List Value).toArray below meth c H locs 0 0 (MQ below (kQv D A (WM q cy res ++ rest)) ([.ref (q 0), .int a1, .long a2] : List Value).toArray s 0 0 A) (F0 m 0 ls []) by rw [hH0, hlocs0] at hgoal; exact hgoal
  clear hH0 hlocs0
  unfold mX6_sets at hf
  refine lv_iconst (v := 0) hx hb dX6_sets_0 (by decide) ?_
  refine lv_istore (lv' := [(4, .int 0), (0, .ref (q 0)), (1, .int a1), (2, .long a2)]) hx hb dX6_sets_1 hl (by decide) rfl (fun ls hl => ?_)
  have L3 : ∀ (n3v : Nat) (s3 : Int32 × KS) (e3 : KS), lpO (mX6_sets_s3 a1 a2) n3v s3 = some e3 → ∀ (H : Heap) (locs : List Loc) (ls : Array Slot), va_P D vwCl (WM q cy s3.2 ++ rest) H → va_D A (WM q cy s3.2 ++ rest) → va_S A s.heap H locs → lv_has ls 5 [(0, .ref (q 0)), (1, .int a1), (2, .long a2), (4, .int s3.1)] → (∀ (H : Heap) (locs : List Loc) (ls : Array Slot), va_P D vwCl (WM q cy e3 ++ rest) H → va_D A (WM q cy e3 ++ rest) → va_S A s.heap H locs → lv_has ls 5 [(0, .ref (q 0)), (1, .int a1)] → W p l e rmX6_sets s m ([.ref (q 0), .int a1, .long a2] : List Value).toArray below meth c H locs 0 0 (MQ below (kQv D A (WM q cy res ++ rest)) ([.ref (q 0), .int a1, .long a2] : List Value).toArray s 0 0 A) (F0 m 50 ls [])) → W p l e rmX6_sets s m ([.ref (q 0), .int a1, .long a2] : List Value).toArray below meth c H locs 0 0 (MQ below (kQv D A (WM q cy res ++ rest)) ([.ref (q 0), .int a1, .long a2] : List Value).toArray s 0 0 A) (F0 m 3 ls []) := by
    intro n3v
    induction n3v with
    | zero => intro s3 e3 h; exact (lpO_z h).elim
    | succ n3v ih3 =>
      intro s3 e3 h3z H locs ls hP hD hS hl K3_0
      obtain ⟨x3, hf, h3z⟩ := lpO_s h3z
      unfold mX6_sets_s3 at hf
      refine lv_iload hx hb dX6_sets_3 (lv_at hl 3 rfl) ?_
      refine lv_bipush (v := 12) hx hb dX6_sets_5 (by decide) ?_
      refine lv_icmp_ge (tgt := 50) hx hb dX6_sets_7 (by decide) (fun c7 => ?_) (fun c7 => ?_)
      · have hf := o_ip c7 hf
        obtain rfl := o_ret hf
        obtain rfl := lpK_l h3z
        exact K3_0 _ _ _ hP hD hS (lv_sub hl [0, 1] rfl)
      · have hf := o_in c7 hf
        refine lv_aload_n hx hb dX6_sets_10 rfl (lv_at hl 0 rfl) ?_
        refine va_get (ci := 6) (v := .ref (q 5)) (C := RX6) (T := TX6) (N := 26) hx hb hts inlX6 hown hE.1 hP 0 rfl rfl 5 (by decide) (hts _ wB88) (fun _ h9 => h9) rfl dX6_sets_11 ?_
        refine lv_bipush (v := 12) hx hb dX6_sets_14 (by decide) ?_
        refine lv_iload_n hx hb dX6_sets_16 rfl (lv_at hl 1 rfl) ?_
        refine lv_imul hx hb dX6_sets_17 ?_
        refine lv_iload hx hb dX6_sets_18 (lv_at hl 3 rfl) ?_
        refine lv_iadd hx hb dX6_sets_20 ?_
        refine lv_iload hx hb dX6_sets_21 (lv_at hl 3 rfl) ?_
        refine lv_iconst (v := 3) hx hb dX6_sets_23 (by decide) ?_
        refine lv_icmp_ge (tgt := 42) hx hb dX6_sets_24 (by decide) (fun c24 => ?_) (fun c24 => ?_)
        · have hf := o_ip c24 hf
          refine lv_iconst (v := 0) hx hb dX6_sets_42 (by decide) ?_
          obtain ⟨hg43, hf⟩ := gd_s hf
          refine va_iast (f := (gR s3.2 4)) hx hb hE.1 hP hD hS 5 0 rfl rfl hg43 dX6_sets_43 (fun H locs hP hD hS => ?_)
          have hP : va_P D vwCl (WM q cy (sR s3.2 4 (upd (gR s3.2 4) (((12 * a1) + s3.1).toNatClampNeg) 0)) ++ rest) H := hP
          have hD : va_D A (WM q cy (sR s3.2 4 (upd (gR s3.2 4) (((12 * a1) + s3.1).toNatClampNeg) 0)) ++ rest) := hD
          refine lv_iinc (v := (s3.1 + 1)) (lv' := [(4, .int (s3.1 + 1)), (0, .ref (q 0)), (1, .int a1), (2, .long a2)]) hx hb dX6_sets_44 hl (k := 3) rfl (by rfl) (by decide) rfl (fun ls hl => ?_)
          refine lv_goto (tgt := 3) hx hb dX6_sets_47 (by decide) ?_
          obtain rfl := o_ret hf
          exact ih3 _ _ (lpK_r h3z) _ _ _ hP hD hS (lv_sub hl [1, 2, 3, 0] rfl) K3_0
        · have hf := o_in c24 hf
          refine lv_lload_n hx hb dX6_sets_27 rfl (lv_at hl 2 rfl) ?_
          refine lv_bipush (v := 30) hx hb dX6_sets_28 (by decide) ?_
          refine lv_iload hx hb dX6_sets_30 (lv_at hl 3 rfl) ?_
          refine lv_imul hx hb dX6_sets_32 ?_
          refine lv_lshr (v := (a2 >>> ((30 * s3.1).toInt64 &&& 63))) hx hb dX6_sets_33 rfl ?_
          refine lv_ldc2 (v := 1073741823) hx hb hown (hts _ wB102) dX6_sets_34 ?_
          refine lv_land hx hb dX6_sets_37 ?_
          refine lv_l2i (v := (((a2 >>> ((30 * s3.1).toInt64 &&& 63)) &&& 1073741823).toInt32)) hx hb dX6_sets_38 rfl ?_
          refine lv_goto (tgt := 43) hx hb dX6_sets_39 (by decide) ?_
          obtain ⟨hg43, hf⟩ := gd_s hf
          refine va_iast (f := (gR s3.2 4)) hx hb hE.1 hP hD hS 5 0 rfl rfl hg43 dX6_sets_43 (fun H locs hP hD hS => ?_)
          have hP : va_P D vwCl (WM q cy (sR s3.2 4 (upd (gR s3.2 4) (((12 * a1) + s3.1).toNatClampNeg) (((a2 >>> ((30 * s3.1).toInt64 &&& 63)) &&& 1073741823).toInt32))) ++ rest) H := hP
          have hD : va_D A (WM q cy (sR s3.2 4 (upd (gR s3.2 4) (((12 * a1) + s3.1).toNatClampNeg) (((a2 >>> ((30 * s3.1).toInt64 &&& 63)) &&& 1073741823).toInt32))) ++ rest) := hD
          refine lv_iinc (v := (s3.1 + 1)) (lv' := [(4, .int (s3.1 + 1)), (0, .ref (q 0)), (1, .int a1), (2, .long a2)]) hx hb dX6_sets_44 hl (k := 3) rfl (by rfl) (by decide) rfl (fun ls hl => ?_)
          refine lv_goto (tgt := 3) hx hb dX6_sets_47 (by decide) ?_
          obtain rfl := o_ret hf
          exact ih3 _ _ (lpK_r h3z) _ _ _ hP hD hS (lv_sub hl [1, 2, 3, 0] rfl) K3_0
  obtain ⟨e3, h3q, hf⟩ := o_bs hf
  obtain ⟨n3v, h3q⟩ := lpF_ex h3q
  refine L3 n3v _ e3 h3q _ _ _ hP hD hS (lv_sub hl [1, 2, 3, 0] rfl) ?_
  intro H locs ls hP hD hS hl
  refine lv_aload_n hx hb dX6_sets_50 rfl (lv_at hl 0 rfl) ?_
  refine va_get (ci := 6) (v := .ref (q 6)) (C := RX6) (T := TX6) (N := 26) hx hb hts inlX6 hown hE.1 hP 0 rfl rfl 6 (by decide) (hts _ wB89) (fun _ h9 => h9) rfl dX6_sets_51 ?_
  refine lv_iload_n hx hb dX6_sets_54 rfl (lv_at hl 1 rfl) ?_
  refine lv_iconst (v := 3) hx hb dX6_sets_55 (by decide) ?_
  obtain ⟨hg56, hf⟩ := gd_s hf
  refine va_iast (f := (gR e3 5)) hx hb hE.1 hP hD hS 6 0 rfl rfl hg56 dX6_sets_56 (fun H locs hP hD hS => ?_)
  have hP : va_P D vwCl (WM q cy (sR e3 5 (upd (gR e3 5) (a1.toNatClampNeg) 3)) ++ rest) H := hP
  have hD : va_D A (WM q cy (sR e3 5 (upd (gR e3 5) (a1.toNatClampNeg) 3)) ++ rest) := hD
  refine lv_aload_n hx hb dX6_sets_57 rfl (lv_at hl 0 rfl) ?_
  refine lv_iload_n hx hb dX6_sets_58 rfl (lv_at hl 1 rfl) ?_
  obtain ⟨r59, h59r, hf⟩ := o_bs hf
  refine k_gov (va_runV (As := [.int a1]) (rest := []) ⟨hx, hb, hml, hown, hts⟩ (zX6_trims l D cy sa q rest H.size (sR e3 5 (upd (gR e3 5) (a1.toNatClampNeg) 3)) a1 r59 h59r) (cwV 1 hts (gB_V wB103 wB104 wB105 wB5 wB106) rfl rfl rfl (by decide +kernel) ⟨Nat.le_of_ble_eq_true rfl, Nat.le_of_ble_eq_true rfl⟩) ⟨kP.blind, k_recv hE hP (ci := 6) (q0 := 0) rfl rfl, k_pre hP hD hS hE hA⟩ rfl rfl hl.1 rfl (lv_room (Nat.le_of_ble_eq_true rfl)) dX6_sets_59 ⟨Nat.zero_le _, Nat.zero_le _⟩) hD hS hA (fun H locs hP hD hS => ?_)
  obtain rfl := o_ret hf
  exact k_vret hx hb hr hP hD hS (Nat.zero_le _) (Nat.zero_le _) hlocks dX6_sets_62
noncomputable def mX6_times_s5 (c1 : Int32) (c2 : Int32) (s5 : Int64 × Int32 × KS) : Option (((Int64 × KS)) ⊕ (Int64 × Int32 × KS)) :=
  gd (inb c1 7) (if ((gR s5.2.2 5) (c1.toNatClampNeg)) ≤ s5.2.1 then
  (some (.inl (s5.1, s5.2.2)))
  else
  (gd (inb ((12 * c1) + s5.2.1) 84) (gd (inb ((12 * c1) + s5.2.1) 84) (some (.inr (((((((gR s5.2.2 4) (((12 * c1) + s5.2.1).toNatClampNeg)).toInt64) * (c2.toInt64)) + s5.1) >>> ((30 : Int32).toInt64 &&& 63)), (s5.2.1 + 1), (sR s5.2.2 4 (upd (gR s5.2.2 4) (((12 * c1) + s5.2.1).toNatClampNeg) (((((((gR s5.2.2 4) (((12 * c1) + s5.2.1).toNatClampNeg)).toInt64) * (c2.toInt64)) + s5.1) &&& 1073741823).toInt32)))))))))
noncomputable def mX6_times (u : KS) (a1 : Int32) (a2 : Int32) : Option (KS) :=
  (lpF (mX6_times_s5 a1 a2) (0, 0, u)).bind fun e5 =>
  if (lg_cmp e5.1 0) ≤ 0 then
  ((mX6_trims e5.2 a1).bind fun r103 =>
  some r103)
  else
  (gd (inb a1 7) (gd (inb ((12 * a1) + ((gR e5.2 5) (a1.toNatClampNeg))) 84) (gd (inb a1 7) (gd (inb a1 7) ((mX6_trims (sR (sR e5.2 4 (upd (gR e5.2 4) (((12 * a1) + ((gR e5.2 5) (a1.toNatClampNeg))).toNatClampNeg) (e5.1.toInt32))) 5 (upd (gR e5.2 5) (a1.toNatClampNeg) (((gR e5.2 5) (a1.toNatClampNeg)) + 1))) a1).bind fun r103 =>
  some r103)))))
abbrev rmX6_times : Room := { frames := 1, cells := 0, slots := 0, locals := 21 }
set_option maxRecDepth 100000 in
set_option maxHeartbeats 4000000 in
theorem zX6_times (l : Launch) (D : va_G) (cy : Nat → ClassId) (sa : Nat → Nat) (q : Nat → Nat) (rest : va_W) (sz : Nat) (u : KS) (a1 : Int32) (a2 : Int32) (res : KS) (hf : mX6_times u a1 a2 = some res) : kMv l yX6_times (wsK yX6_times cX6_times 8 none) rmX6_times D cy sa (WM q cy u ++ rest) sz [.ref (q 0), .int a1, .int a2] (WM q cy res ++ rest) 0 0 := by
  refine kM_of (Qc := fun A => kQv D A (WM q cy res ++ rest)) (cc := cX6_times) (maxL := 8) (ret := none) (by decide) (Nat.le_of_ble_eq_true rfl) ?_
  intro p e s m below meth c A hx hb hml hr hts hown hlocks hin hA hP hD hS hE hsz ls hl
  have hown : s.vm.findClass RX6 = some m.cls := hown
  obtain ⟨H, hH0⟩ : ∃ H, H = s.heap := ⟨_, rfl⟩
  obtain ⟨locs, hlocs0⟩ : ∃ locs : List Loc, locs = [] := ⟨_, rfl⟩
  have hP : va_P D vwCl (WM q cy u ++ rest) H := by rw [hH0]; exact hP
  have hS : va_S A s.heap H locs := by rw [hH0, hlocs0]; exact hS
  have hl : lv_has ls 8 [(0, .ref (q 0)), (1, .int a1), (2, .int a2)] := hl
  suffices hgoal : W p l e rmX6_times s m ([.ref (q 0), .int a1, .int a2] : List Value).toArray below meth c H locs 0 0 (MQ below (kQv D A (WM q cy res ++ rest)) ([.ref (q 0), .int a1, .int a2] : List Value).toArray s 0 0 A) (F0 m 0 ls []) by rw [hH0, hlocs0] at hgoal; exact hgoal
  clear hH0 hlocs0
  unfold mX6_times at hf
  refine lv_lconst (v := 0) hx hb dX6_times_0 (by decide) ?_
  refine lv_lstore_n (lv' := [(3, .long 0), (0, .ref (q 0)), (1, .int a1), (2, .int a2)]) hx hb dX6_times_1 rfl hl (by decide) rfl (fun ls hl => ?_)
  refine lv_iconst (v := 0) hx hb dX6_times_2 (by decide) ?_
  refine lv_istore (lv' := [(5, .int 0), (3, .long 0), (0, .ref (q 0)), (1, .int a1), (2, .int a2)]) hx hb dX6_times_3 hl (by decide) rfl (fun ls hl => ?_)
  have L5 : ∀ (n5v : Nat) (s5 : Int64 × Int32 × KS) (e5 : (Int64 × KS)), lpO (mX6_times_s5 a1 a2) n5v s5 = some e5 → ∀ (H : Heap) (locs : List Loc) (ls : Array Slot), va_P D vwCl (WM q cy s5.2.2 ++ rest) H → va_D A (WM q cy s5.2.2 ++ rest) → va_S A s.heap H locs → lv_has ls 8 [(0, .ref (q 0)), (1, .int a1), (2, .int a2), (3, .long s5.1), (5, .int s5.2.1)] → (∀ (H : Heap) (locs : List Loc) (ls : Array Slot), va_P D vwCl (WM q cy e5.2 ++ rest) H → va_D A (WM q cy e5.2 ++ rest) → va_S A s.heap H locs → lv_has ls 8 [(0, .ref (q 0)), (1, .int a1), (3, .long e5.1)] → W p l e rmX6_times s m ([.ref (q 0), .int a1, .int a2] : List Value).toArray below meth c H locs 0 0 (MQ below (kQv D A (WM q cy res ++ rest)) ([.ref (q 0), .int a1, .int a2] : List Value).toArray s 0 0 A) (F0 m 67 ls [])) → W p l e rmX6_times s m ([.ref (q 0), .int a1, .int a2] : List Value).toArray below meth c H locs 0 0 (MQ below (kQv D A (WM q cy res ++ rest)) ([.ref (q 0), .int a1, .int a2] : List Value).toArray s 0 0 A) (F0 m 5 ls []) := by
    intro n5v
    induction n5v with
    | zero => intro s5 e5 h; exact (lpO_z h).elim
    | succ n5v ih5 =>
      intro s5 e5 h5z H locs ls hP hD hS hl K5_0
      obtain ⟨x5, hf, h5z⟩ := lpO_s h5z
      unfold mX6_times_s5 at hf
      refine lv_iload hx hb dX6_times_5 (lv_at hl 4 rfl) ?_
      refine lv_aload_n hx hb dX6_times_7 rfl (lv_at hl 0 rfl) ?_
      refine va_get (ci := 6) (v := .ref (q 6)) (C := RX6) (T := TX6) (N := 26) hx hb hts inlX6 hown hE.1 hP 0 rfl rfl 6 (by decide) (hts _ wB89) (fun _ h9 => h9) rfl dX6_times_8 ?_
      refine lv_iload_n hx hb dX6_times_11 rfl (lv_at hl 1 rfl) ?_
      obtain ⟨hg12, hf⟩ := gd_s hf
      refine va_iald (f := (gR s5.2.2 5)) hx hb hE.1 hP 6 0 rfl rfl hg12 dX6_times_12 ?_
      refine lv_icmp_ge (tgt := 67) hx hb dX6_times_13 (by decide) (fun c13 => ?_) (fun c13 => ?_)
      · have hf := o_ip c13 hf
        obtain rfl := o_ret hf
        obtain rfl := lpK_l h5z
        exact K5_0 _ _ _ hP hD hS (lv_sub hl [0, 1, 3] rfl)
      · have hf := o_in c13 hf
        refine lv_aload_n hx hb dX6_times_16 rfl (lv_at hl 0 rfl) ?_
        refine va_get (ci := 6) (v := .ref (q 5)) (C := RX6) (T := TX6) (N := 26) hx hb hts inlX6 hown hE.1 hP 0 rfl rfl 5 (by decide) (hts _ wB88) (fun _ h9 => h9) rfl dX6_times_17 ?_
        refine lv_bipush (v := 12) hx hb dX6_times_20 (by decide) ?_
        refine lv_iload_n hx hb dX6_times_22 rfl (lv_at hl 1 rfl) ?_
        refine lv_imul hx hb dX6_times_23 ?_
        refine lv_iload hx hb dX6_times_24 (lv_at hl 4 rfl) ?_
        refine lv_iadd hx hb dX6_times_26 ?_
        obtain ⟨hg27, hf⟩ := gd_s hf
        refine va_iald (f := (gR s5.2.2 4)) hx hb hE.1 hP 5 0 rfl rfl hg27 dX6_times_27 ?_
        refine lv_i2l (v := (((gR s5.2.2 4) (((12 * a1) + s5.2.1).toNatClampNeg)).toInt64)) hx hb dX6_times_28 rfl ?_
        refine lv_iload_n hx hb dX6_times_29 rfl (lv_at hl 2 rfl) ?_
        refine lv_i2l (v := (a2.toInt64)) hx hb dX6_times_30 rfl ?_
        refine lv_lmul hx hb dX6_times_31 ?_
        refine lv_lload_n hx hb dX6_times_32 rfl (lv_at hl 3 rfl) ?_
        refine lv_ladd hx hb dX6_times_33 ?_
        refine lv_lstore (lv' := [(6, .long (((((gR s5.2.2 4) (((12 * a1) + s5.2.1).toNatClampNeg)).toInt64) * (a2.toInt64)) + s5.1)), (0, .ref (q 0)), (1, .int a1), (2, .int a2), (3, .long s5.1), (5, .int s5.2.1)]) hx hb dX6_times_34 hl (by decide) rfl (fun ls hl => ?_)
        refine lv_aload_n hx hb dX6_times_36 rfl (lv_at hl 1 rfl) ?_
        refine va_get (ci := 6) (v := .ref (q 5)) (C := RX6) (T := TX6) (N := 26) hx hb hts inlX6 hown hE.1 hP 0 rfl rfl 5 (by decide) (hts _ wB88) (fun _ h9 => h9) rfl dX6_times_37 ?_
        refine lv_bipush (v := 12) hx hb dX6_times_40 (by decide) ?_
        refine lv_iload_n hx hb dX6_times_42 rfl (lv_at hl 2 rfl) ?_
        refine lv_imul hx hb dX6_times_43 ?_
        refine lv_iload hx hb dX6_times_44 (lv_at hl 5 rfl) ?_
        refine lv_iadd hx hb dX6_times_46 ?_
        refine lv_lload hx hb dX6_times_47 (lv_at hl 0 rfl) ?_
        refine lv_ldc2 (v := 1073741823) hx hb hown (hts _ wB102) dX6_times_49 ?_
        refine lv_land hx hb dX6_times_52 ?_
        refine lv_l2i (v := (((((((gR s5.2.2 4) (((12 * a1) + s5.2.1).toNatClampNeg)).toInt64) * (a2.toInt64)) + s5.1) &&& 1073741823).toInt32)) hx hb dX6_times_53 rfl ?_
        obtain ⟨hg54, hf⟩ := gd_s hf
        refine va_iast (f := (gR s5.2.2 4)) hx hb hE.1 hP hD hS 5 0 rfl rfl hg54 dX6_times_54 (fun H locs hP hD hS => ?_)
        have hP : va_P D vwCl (WM q cy (sR s5.2.2 4 (upd (gR s5.2.2 4) (((12 * a1) + s5.2.1).toNatClampNeg) (((((((gR s5.2.2 4) (((12 * a1) + s5.2.1).toNatClampNeg)).toInt64) * (a2.toInt64)) + s5.1) &&& 1073741823).toInt32))) ++ rest) H := hP
        have hD : va_D A (WM q cy (sR s5.2.2 4 (upd (gR s5.2.2 4) (((12 * a1) + s5.2.1).toNatClampNeg) (((((((gR s5.2.2 4) (((12 * a1) + s5.2.1).toNatClampNeg)).toInt64) * (a2.toInt64)) + s5.1) &&& 1073741823).toInt32))) ++ rest) := hD
        refine lv_lload hx hb dX6_times_55 (lv_at hl 0 rfl) ?_
        refine lv_bipush (v := 30) hx hb dX6_times_57 (by decide) ?_
        refine lv_lshr (v := ((((((gR s5.2.2 4) (((12 * a1) + s5.2.1).toNatClampNeg)).toInt64) * (a2.toInt64)) + s5.1) >>> ((30 : Int32).toInt64 &&& 63))) hx hb dX6_times_59 rfl ?_
        refine lv_lstore_n (lv' := [(3, .long ((((((gR s5.2.2 4) (((12 * a1) + s5.2.1).toNatClampNeg)).toInt64) * (a2.toInt64)) + s5.1) >>> ((30 : Int32).toInt64 &&& 63))), (6, .long (((((gR s5.2.2 4) (((12 * a1) + s5.2.1).toNatClampNeg)).toInt64) * (a2.toInt64)) + s5.1)), (0, .ref (q 0)), (1, .int a1), (2, .int a2), (5, .int s5.2.1)]) hx hb dX6_times_60 rfl hl (by decide) rfl (fun ls hl => ?_)
        refine lv_iinc (v := (s5.2.1 + 1)) (lv' := [(5, .int (s5.2.1 + 1)), (3, .long ((((((gR s5.2.2 4) (((12 * a1) + s5.2.1).toNatClampNeg)).toInt64) * (a2.toInt64)) + s5.1) >>> ((30 : Int32).toInt64 &&& 63))), (6, .long (((((gR s5.2.2 4) (((12 * a1) + s5.2.1).toNatClampNeg)).toInt64) * (a2.toInt64)) + s5.1)), (0, .ref (q 0)), (1, .int a1), (2, .int a2)]) hx hb dX6_times_61 hl (k := 5) rfl (by rfl) (by decide) rfl (fun ls hl => ?_)
        refine lv_goto (tgt := 5) hx hb dX6_times_64 (by decide) ?_
        obtain rfl := o_ret hf
        exact ih5 _ _ (lpK_r h5z) _ _ _ hP hD hS (lv_sub hl [3, 4, 5, 1, 0] rfl) K5_0
  obtain ⟨e5, h5q, hf⟩ := o_bs hf
  obtain ⟨n5v, h5q⟩ := lpF_ex h5q
  refine L5 n5v _ e5 h5q _ _ _ hP hD hS (lv_sub hl [2, 3, 4, 1, 0] rfl) ?_
  intro H locs ls hP hD hS hl
  refine lv_lload_n hx hb dX6_times_67 rfl (lv_at hl 2 rfl) ?_
  refine lv_lconst (v := 0) hx hb dX6_times_68 (by decide) ?_
  refine W.lcmp hx hb dX6_times_69 ?_
  refine lv_if_le (tgt := 101) hx hb dX6_times_70 (by decide) (fun c70 => ?_) (fun c70 => ?_)
  · have hf := o_ip c70 hf
    refine lv_aload_n hx hb dX6_times_101 rfl (lv_at hl 0 rfl) ?_
    refine lv_iload_n hx hb dX6_times_102 rfl (lv_at hl 1 rfl) ?_
    obtain ⟨r103, h103r, hf⟩ := o_bs hf
    refine k_gov (va_runV (As := [.int a1]) (rest := []) ⟨hx, hb, hml, hown, hts⟩ (zX6_trims l D cy sa q rest H.size e5.2 a1 r103 h103r) (cwV 1 hts (gB_V wB103 wB104 wB105 wB5 wB106) rfl rfl rfl (by decide +kernel) ⟨Nat.le_of_ble_eq_true rfl, Nat.le_of_ble_eq_true rfl⟩) ⟨kP.blind, k_recv hE hP (ci := 6) (q0 := 0) rfl rfl, k_pre hP hD hS hE hA⟩ rfl rfl hl.1 rfl (lv_room (Nat.le_of_ble_eq_true rfl)) dX6_times_103 ⟨Nat.zero_le _, Nat.zero_le _⟩) hD hS hA (fun H locs hP hD hS => ?_)
    obtain rfl := o_ret hf
    exact k_vret hx hb hr hP hD hS (Nat.zero_le _) (Nat.zero_le _) hlocks dX6_times_106
  · have hf := o_in c70 hf
    refine lv_aload_n hx hb dX6_times_73 rfl (lv_at hl 0 rfl) ?_
    refine va_get (ci := 6) (v := .ref (q 5)) (C := RX6) (T := TX6) (N := 26) hx hb hts inlX6 hown hE.1 hP 0 rfl rfl 5 (by decide) (hts _ wB88) (fun _ h9 => h9) rfl dX6_times_74 ?_
    refine lv_bipush (v := 12) hx hb dX6_times_77 (by decide) ?_
    refine lv_iload_n hx hb dX6_times_79 rfl (lv_at hl 1 rfl) ?_
    refine lv_imul hx hb dX6_times_80 ?_
    refine lv_aload_n hx hb dX6_times_81 rfl (lv_at hl 0 rfl) ?_
    refine va_get (ci := 6) (v := .ref (q 6)) (C := RX6) (T := TX6) (N := 26) hx hb hts inlX6 hown hE.1 hP 0 rfl rfl 6 (by decide) (hts _ wB89) (fun _ h9 => h9) rfl dX6_times_82 ?_
    refine lv_iload_n hx hb dX6_times_85 rfl (lv_at hl 1 rfl) ?_
    obtain ⟨hg86, hf⟩ := gd_s hf
    refine va_iald (f := (gR e5.2 5)) hx hb hE.1 hP 6 0 rfl rfl hg86 dX6_times_86 ?_
    refine lv_iadd hx hb dX6_times_87 ?_
    refine lv_lload_n hx hb dX6_times_88 rfl (lv_at hl 2 rfl) ?_
    refine lv_l2i (v := (e5.1.toInt32)) hx hb dX6_times_89 rfl ?_
    obtain ⟨hg90, hf⟩ := gd_s hf
    refine va_iast (f := (gR e5.2 4)) hx hb hE.1 hP hD hS 5 0 rfl rfl hg90 dX6_times_90 (fun H locs hP hD hS => ?_)
    have hP : va_P D vwCl (WM q cy (sR e5.2 4 (upd (gR e5.2 4) (((12 * a1) + ((gR e5.2 5) (a1.toNatClampNeg))).toNatClampNeg) (e5.1.toInt32))) ++ rest) H := hP
    have hD : va_D A (WM q cy (sR e5.2 4 (upd (gR e5.2 4) (((12 * a1) + ((gR e5.2 5) (a1.toNatClampNeg))).toNatClampNeg) (e5.1.toInt32))) ++ rest) := hD
    refine lv_aload_n hx hb dX6_times_91 rfl (lv_at hl 0 rfl) ?_
    refine va_get (ci := 6) (v := .ref (q 6)) (C := RX6) (T := TX6) (N := 26) hx hb hts inlX6 hown hE.1 hP 0 rfl rfl 6 (by decide) (hts _ wB89) (fun _ h9 => h9) rfl dX6_times_92 ?_
    refine lv_iload_n hx hb dX6_times_95 rfl (lv_at hl 1 rfl) ?_
    refine lv_dup2_11 hx hb dX6_times_96 rfl rfl ?_
    obtain ⟨hg97, hf⟩ := gd_s hf
    refine va_iald (f := (gR e5.2 5)) hx hb hE.1 hP 6 0 rfl rfl hg97 dX6_times_97 ?_
    refine lv_iconst (v := 1) hx hb dX6_times_98 (by decide) ?_
    refine lv_iadd hx hb dX6_times_99 ?_
    obtain ⟨hg100, hf⟩ := gd_s hf
    refine va_iast (f := (gR e5.2 5)) hx hb hE.1 hP hD hS 6 0 rfl rfl hg100 dX6_times_100 (fun H locs hP hD hS => ?_)
    have hQ : ∀ (xb : KS) (x0 : (Nat → Int32)) (xn : (Nat → Int32)), (WM q cy (sR xb 4 x0) ++ rest).set 6 (q 6, .inl (cy 0, 7, .inl xn)) = WM q cy (sR (sR xb 4 x0) 5 xn) ++ rest := fun _ _ _ => rfl
    have hP : va_P D vwCl (WM q cy (sR (sR e5.2 4 (upd (gR e5.2 4) (((12 * a1) + ((gR e5.2 5) (a1.toNatClampNeg))).toNatClampNeg) (e5.1.toInt32))) 5 (upd (gR e5.2 5) (a1.toNatClampNeg) (((gR e5.2 5) (a1.toNatClampNeg)) + 1))) ++ rest) H := k_wP (hQ e5.2 (upd (gR e5.2 4) (((12 * a1) + ((gR e5.2 5) (a1.toNatClampNeg))).toNatClampNeg) (e5.1.toInt32)) (upd (gR e5.2 5) (a1.toNatClampNeg) (((gR e5.2 5) (a1.toNatClampNeg)) + 1))) hP
    have hD : va_D A (WM q cy (sR (sR e5.2 4 (upd (gR e5.2 4) (((12 * a1) + ((gR e5.2 5) (a1.toNatClampNeg))).toNatClampNeg) (e5.1.toInt32))) 5 (upd (gR e5.2 5) (a1.toNatClampNeg) (((gR e5.2 5) (a1.toNatClampNeg)) + 1))) ++ rest) := k_wD (hQ e5.2 (upd (gR e5.2 4) (((12 * a1) + ((gR e5.2 5) (a1.toNatClampNeg))).toNatClampNeg) (e5.1.toInt32)) (upd (gR e5.2 5) (a1.toNatClampNeg) (((gR e5.2 5) (a1.toNatClampNeg)) + 1))) hD
    clear hQ
    refine lv_aload_n hx hb dX6_times_101 rfl (lv_at hl 0 rfl) ?_
    refine lv_iload_n hx hb dX6_times_102 rfl (lv_at hl 1 rfl) ?_
    obtain ⟨r103, h103r, hf⟩ := o_bs hf
    refine k_gov (va_runV (As := [.int a1]) (rest := []) ⟨hx, hb, hml, hown, hts⟩ (zX6_trims l D cy sa q rest H.size (sR (sR e5.2 4 (upd (gR e5.2 4) (((12 * a1) + ((gR e5.2 5) (a1.toNatClampNeg))).toNatClampNeg) (e5.1.toInt32))) 5 (upd (gR e5.2 5) (a1.toNatClampNeg) (((gR e5.2 5) (a1.toNatClampNeg)) + 1))) a1 r103 h103r) (cwV 1 hts (gB_V wB103 wB104 wB105 wB5 wB106) rfl rfl rfl (by decide +kernel) ⟨Nat.le_of_ble_eq_true rfl, Nat.le_of_ble_eq_true rfl⟩) ⟨kP.blind, k_recv hE hP (ci := 6) (q0 := 0) rfl rfl, k_pre hP hD hS hE hA⟩ rfl rfl hl.1 rfl (lv_room (Nat.le_of_ble_eq_true rfl)) dX6_times_103 ⟨Nat.zero_le _, Nat.zero_le _⟩) hD hS hA (fun H locs hP hD hS => ?_)
    obtain rfl := o_ret hf
    exact k_vret hx hb hr hP hD hS (Nat.zero_le _) (Nat.zero_le _) hlocks dX6_times_106
noncomputable def mX6_lessens_s5 (c1 : Int32) (c2 : Int32) (s5 : Int32 × Int32 × KS) : Option ((KS) ⊕ (Int32 × Int32 × KS)) :=
  gd (inb c1 7) (if ((gR s5.2.2 5) (c1.toNatClampNeg)) ≤ s5.2.1 then
  (some (.inl s5.2.2))
  else
  (gd (inb ((12 * c1) + s5.2.1) 84) (gd (inb ((12 * c2) + s5.2.1) 84) (gd (inb ((12 * c1) + s5.2.1) 84) (if 0 ≤ ((((gR s5.2.2 4) (((12 * c1) + s5.2.1).toNatClampNeg)) - ((gR s5.2.2 4) (((12 * c2) + s5.2.1).toNatClampNeg))) - s5.1) then
  (some (.inr (0, (s5.2.1 + 1), (sR s5.2.2 4 (upd (gR s5.2.2 4) (((12 * c1) + s5.2.1).toNatClampNeg) (((((gR s5.2.2 4) (((12 * c1) + s5.2.1).toNatClampNeg)) - ((gR s5.2.2 4) (((12 * c2) + s5.2.1).toNatClampNeg))) - s5.1) &&& 1073741823))))))
  else
  (some (.inr (1, (s5.2.1 + 1), (sR s5.2.2 4 (upd (gR s5.2.2 4) (((12 * c1) + s5.2.1).toNatClampNeg) (((((gR s5.2.2 4) (((12 * c1) + s5.2.1).toNatClampNeg)) - ((gR s5.2.2 4) (((12 * c2) + s5.2.1).toNatClampNeg))) - s5.1) &&& 1073741823)))))))))))
noncomputable def mX6_lessens (u : KS) (a1 : Int32) (a2 : Int32) : Option (KS) :=
  (lpF (mX6_lessens_s5 a1 a2) (0, 0, u)).bind fun e5 =>
  (mX6_trims e5 a1).bind fun r81 =>
  some r81
abbrev rmX6_lessens : Room := { frames := 1, cells := 0, slots := 0, locals := 21 }
set_option maxRecDepth 100000 in
set_option maxHeartbeats 4000000 in
theorem zX6_lessens (l : Launch) (D : va_G) (cy : Nat → ClassId) (sa : Nat → Nat) (q : Nat → Nat) (rest : va_W) (sz : Nat) (u : KS) (a1 : Int32) (a2 : Int32) (res : KS) (hf : mX6_lessens u a1 a2 = some res) : kMv l yX6_lessens (wsK yX6_lessens cX6_lessens 6 none) rmX6_lessens D cy sa (WM q cy u ++ rest) sz [.ref (q 0), .int a1, .int a2] (WM q cy res ++ rest) 0 0 := by
  refine kM_of (Qc := fun A => kQv D A (WM q cy res ++ rest)) (cc := cX6_lessens) (maxL := 6) (ret := none) (by decide) (Nat.le_of_ble_eq_true rfl) ?_
  intro p e s m below meth c A hx hb hml hr hts hown hlocks hin hA hP hD hS hE hsz ls hl
  have hown : s.vm.findClass RX6 = some m.cls := hown
  obtain ⟨H, hH0⟩ : ∃ H, H = s.heap := ⟨_, rfl⟩
  obtain ⟨locs, hlocs0⟩ : ∃ locs : List Loc, locs = [] := ⟨_, rfl⟩
  have hP : va_P D vwCl (WM q cy u ++ rest) H := by rw [hH0]; exact hP
  have hS : va_S A s.heap H locs := by rw [hH0, hlocs0]; exact hS
  have hl : lv_has ls 6 [(0, .ref (q 0)), (1, .int a1), (2, .int a2)] := hl
  suffices hgoal : W p l e rmX6_lessens s m ([.ref (q 0), .int a1, .int a2] : List Value).toArray below meth c H locs 0 0 (MQ below (kQv D A (WM q cy res ++ rest)) ([.ref (q 0), .int a1, .int a2] : List Value).toArray s 0 0 A) (F0 m 0 ls []) by rw [hH0, hlocs0] at hgoal; exact hgoal
  clear hH0 hlocs0
  unfold mX6_lessens at hf
  refine lv_iconst (v := 0) hx hb dX6_lessens_0 (by decide) ?_
  refine lv_istore_n (lv' := [(3, .int 0), (0, .ref (q 0)), (1, .int a1), (2, .int a2)]) hx hb dX6_lessens_1 rfl hl (by decide) rfl (fun ls hl => ?_)
  refine lv_iconst (v := 0) hx hb dX6_lessens_2 (by decide) ?_
  refine lv_istore (lv' := [(4, .int 0), (3, .int 0), (0, .ref (q 0)), (1, .int a1), (2, .int a2)]) hx hb dX6_lessens_3 hl (by decide) rfl (fun ls hl => ?_)
  have L5 : ∀ (n5v : Nat) (s5 : Int32 × Int32 × KS) (e5 : KS), lpO (mX6_lessens_s5 a1 a2) n5v s5 = some e5 → ∀ (H : Heap) (locs : List Loc) (ls : Array Slot), va_P D vwCl (WM q cy s5.2.2 ++ rest) H → va_D A (WM q cy s5.2.2 ++ rest) → va_S A s.heap H locs → lv_has ls 6 [(0, .ref (q 0)), (1, .int a1), (2, .int a2), (3, .int s5.1), (4, .int s5.2.1)] → (∀ (H : Heap) (locs : List Loc) (ls : Array Slot), va_P D vwCl (WM q cy e5 ++ rest) H → va_D A (WM q cy e5 ++ rest) → va_S A s.heap H locs → lv_has ls 6 [(0, .ref (q 0)), (1, .int a1)] → W p l e rmX6_lessens s m ([.ref (q 0), .int a1, .int a2] : List Value).toArray below meth c H locs 0 0 (MQ below (kQv D A (WM q cy res ++ rest)) ([.ref (q 0), .int a1, .int a2] : List Value).toArray s 0 0 A) (F0 m 79 ls [])) → W p l e rmX6_lessens s m ([.ref (q 0), .int a1, .int a2] : List Value).toArray below meth c H locs 0 0 (MQ below (kQv D A (WM q cy res ++ rest)) ([.ref (q 0), .int a1, .int a2] : List Value).toArray s 0 0 A) (F0 m 5 ls []) := by
    intro n5v
    induction n5v with
    | zero => intro s5 e5 h; exact (lpO_z h).elim
    | succ n5v ih5 =>
      intro s5 e5 h5z H locs ls hP hD hS hl K5_0
      obtain ⟨x5, hf, h5z⟩ := lpO_s h5z
      unfold mX6_lessens_s5 at hf
      refine lv_iload hx hb dX6_lessens_5 (lv_at hl 4 rfl) ?_
      refine lv_aload_n hx hb dX6_lessens_7 rfl (lv_at hl 0 rfl) ?_
      refine va_get (ci := 6) (v := .ref (q 6)) (C := RX6) (T := TX6) (N := 26) hx hb hts inlX6 hown hE.1 hP 0 rfl rfl 6 (by decide) (hts _ wB89) (fun _ h9 => h9) rfl dX6_lessens_8 ?_
      refine lv_iload_n hx hb dX6_lessens_11 rfl (lv_at hl 1 rfl) ?_
      obtain ⟨hg12, hf⟩ := gd_s hf
      refine va_iald (f := (gR s5.2.2 5)) hx hb hE.1 hP 6 0 rfl rfl hg12 dX6_lessens_12 ?_
      refine lv_icmp_ge (tgt := 79) hx hb dX6_lessens_13 (by decide) (fun c13 => ?_) (fun c13 => ?_)
      · have hf := o_ip c13 hf
        obtain rfl := o_ret hf
        obtain rfl := lpK_l h5z
        exact K5_0 _ _ _ hP hD hS (lv_sub hl [0, 1] rfl)
      · have hf := o_in c13 hf
        refine lv_aload_n hx hb dX6_lessens_16 rfl (lv_at hl 0 rfl) ?_
        refine va_get (ci := 6) (v := .ref (q 5)) (C := RX6) (T := TX6) (N := 26) hx hb hts inlX6 hown hE.1 hP 0 rfl rfl 5 (by decide) (hts _ wB88) (fun _ h9 => h9) rfl dX6_lessens_17 ?_
        refine lv_bipush (v := 12) hx hb dX6_lessens_20 (by decide) ?_
        refine lv_iload_n hx hb dX6_lessens_22 rfl (lv_at hl 1 rfl) ?_
        refine lv_imul hx hb dX6_lessens_23 ?_
        refine lv_iload hx hb dX6_lessens_24 (lv_at hl 4 rfl) ?_
        refine lv_iadd hx hb dX6_lessens_26 ?_
        obtain ⟨hg27, hf⟩ := gd_s hf
        refine va_iald (f := (gR s5.2.2 4)) hx hb hE.1 hP 5 0 rfl rfl hg27 dX6_lessens_27 ?_
        refine lv_aload_n hx hb dX6_lessens_28 rfl (lv_at hl 0 rfl) ?_
        refine va_get (ci := 6) (v := .ref (q 5)) (C := RX6) (T := TX6) (N := 26) hx hb hts inlX6 hown hE.1 hP 0 rfl rfl 5 (by decide) (hts _ wB88) (fun _ h9 => h9) rfl dX6_lessens_29 ?_
        refine lv_bipush (v := 12) hx hb dX6_lessens_32 (by decide) ?_
        refine lv_iload_n hx hb dX6_lessens_34 rfl (lv_at hl 2 rfl) ?_
        refine lv_imul hx hb dX6_lessens_35 ?_
        refine lv_iload hx hb dX6_lessens_36 (lv_at hl 4 rfl) ?_
        refine lv_iadd hx hb dX6_lessens_38 ?_
        obtain ⟨hg39, hf⟩ := gd_s hf
        refine va_iald (f := (gR s5.2.2 4)) hx hb hE.1 hP 5 0 rfl rfl hg39 dX6_lessens_39 ?_
        refine lv_isub hx hb dX6_lessens_40 ?_
        refine lv_iload_n hx hb dX6_lessens_41 rfl (lv_at hl 3 rfl) ?_
        refine lv_isub hx hb dX6_lessens_42 ?_
        refine lv_istore (lv' := [(5, .int ((((gR s5.2.2 4) (((12 * a1) + s5.2.1).toNatClampNeg)) - ((gR s5.2.2 4) (((12 * a2) + s5.2.1).toNatClampNeg))) - s5.1)), (0, .ref (q 0)), (1, .int a1), (2, .int a2), (3, .int s5.1), (4, .int s5.2.1)]) hx hb dX6_lessens_43 hl (by decide) rfl (fun ls hl => ?_)
        refine lv_aload_n hx hb dX6_lessens_45 rfl (lv_at hl 1 rfl) ?_
        refine va_get (ci := 6) (v := .ref (q 5)) (C := RX6) (T := TX6) (N := 26) hx hb hts inlX6 hown hE.1 hP 0 rfl rfl 5 (by decide) (hts _ wB88) (fun _ h9 => h9) rfl dX6_lessens_46 ?_
        refine lv_bipush (v := 12) hx hb dX6_lessens_49 (by decide) ?_
        refine lv_iload_n hx hb dX6_lessens_51 rfl (lv_at hl 2 rfl) ?_
        refine lv_imul hx hb dX6_lessens_52 ?_
        refine lv_iload hx hb dX6_lessens_53 (lv_at hl 5 rfl) ?_
        refine lv_iadd hx hb dX6_lessens_55 ?_
        refine lv_iload hx hb dX6_lessens_56 (lv_at hl 0 rfl) ?_
        refine lv_ldc (v := 1073741823) hx hb hown (hts _ wB609) dX6_lessens_58 ?_
        refine lv_iand hx hb dX6_lessens_60 ?_
        obtain ⟨hg61, hf⟩ := gd_s hf
        refine va_iast (f := (gR s5.2.2 4)) hx hb hE.1 hP hD hS 5 0 rfl rfl hg61 dX6_lessens_61 (fun H locs hP hD hS => ?_)
        have hP : va_P D vwCl (WM q cy (sR s5.2.2 4 (upd (gR s5.2.2 4) (((12 * a1) + s5.2.1).toNatClampNeg) (((((gR s5.2.2 4) (((12 * a1) + s5.2.1).toNatClampNeg)) - ((gR s5.2.2 4) (((12 * a2) + s5.2.1).toNatClampNeg))) - s5.1) &&& 1073741823))) ++ rest) H := hP
        have hD : va_D A (WM q cy (sR s5.2.2 4 (upd (gR s5.2.2 4) (((12 * a1) + s5.2.1).toNatClampNeg) (((((gR s5.2.2 4) (((12 * a1) + s5.2.1).toNatClampNeg)) - ((gR s5.2.2 4) (((12 * a2) + s5.2.1).toNatClampNeg))) - s5.1) &&& 1073741823))) ++ rest) := hD
        refine lv_iload hx hb dX6_lessens_62 (lv_at hl 0 rfl) ?_
        refine lv_if_ge (tgt := 71) hx hb dX6_lessens_64 (by decide) (fun c64 => ?_) (fun c64 => ?_)
        · have hf := o_ip c64 hf
          refine lv_iconst (v := 0) hx hb dX6_lessens_71 (by decide) ?_
          refine lv_istore_n (lv' := [(3, .int 0), (5, .int ((((gR s5.2.2 4) (((12 * a1) + s5.2.1).toNatClampNeg)) - ((gR s5.2.2 4) (((12 * a2) + s5.2.1).toNatClampNeg))) - s5.1)), (0, .ref (q 0)), (1, .int a1), (2, .int a2), (4, .int s5.2.1)]) hx hb dX6_lessens_72 rfl hl (by decide) rfl (fun ls hl => ?_)
          refine lv_iinc (v := (s5.2.1 + 1)) (lv' := [(4, .int (s5.2.1 + 1)), (3, .int 0), (5, .int ((((gR s5.2.2 4) (((12 * a1) + s5.2.1).toNatClampNeg)) - ((gR s5.2.2 4) (((12 * a2) + s5.2.1).toNatClampNeg))) - s5.1)), (0, .ref (q 0)), (1, .int a1), (2, .int a2)]) hx hb dX6_lessens_73 hl (k := 5) rfl (by rfl) (by decide) rfl (fun ls hl => ?_)
          refine lv_goto (tgt := 5) hx hb dX6_lessens_76 (by decide) ?_
          obtain rfl := o_ret hf
          exact ih5 _ _ (lpK_r h5z) _ _ _ hP hD hS (lv_sub hl [3, 4, 5, 1, 0] rfl) K5_0
        · have hf := o_in c64 hf
          refine lv_iconst (v := 1) hx hb dX6_lessens_67 (by decide) ?_
          refine lv_goto (tgt := 72) hx hb dX6_lessens_68 (by decide) ?_
          refine lv_istore_n (lv' := [(3, .int 1), (5, .int ((((gR s5.2.2 4) (((12 * a1) + s5.2.1).toNatClampNeg)) - ((gR s5.2.2 4) (((12 * a2) + s5.2.1).toNatClampNeg))) - s5.1)), (0, .ref (q 0)), (1, .int a1), (2, .int a2), (4, .int s5.2.1)]) hx hb dX6_lessens_72 rfl hl (by decide) rfl (fun ls hl => ?_)
          refine lv_iinc (v := (s5.2.1 + 1)) (lv' := [(4, .int (s5.2.1 + 1)), (3, .int 1), (5, .int ((((gR s5.2.2 4) (((12 * a1) + s5.2.1).toNatClampNeg)) - ((gR s5.2.2 4) (((12 * a2) + s5.2.1).toNatClampNeg))) - s5.1)), (0, .ref (q 0)), (1, .int a1), (2, .int a2)]) hx hb dX6_lessens_73 hl (k := 5) rfl (by rfl) (by decide) rfl (fun ls hl => ?_)
          refine lv_goto (tgt := 5) hx hb dX6_lessens_76 (by decide) ?_
          obtain rfl := o_ret hf
          exact ih5 _ _ (lpK_r h5z) _ _ _ hP hD hS (lv_sub hl [3, 4, 5, 1, 0] rfl) K5_0
  obtain ⟨e5, h5q, hf⟩ := o_bs hf
  obtain ⟨n5v, h5q⟩ := lpF_ex h5q
  refine L5 n5v _ e5 h5q _ _ _ hP hD hS (lv_sub hl [2, 3, 4, 1, 0] rfl) ?_
  intro H locs ls hP hD hS hl
  refine lv_aload_n hx hb dX6_lessens_79 rfl (lv_at hl 0 rfl) ?_
  refine lv_iload_n hx hb dX6_lessens_80 rfl (lv_at hl 1 rfl) ?_
  obtain ⟨r81, h81r, hf⟩ := o_bs hf
  refine k_gov (va_runV (As := [.int a1]) (rest := []) ⟨hx, hb, hml, hown, hts⟩ (zX6_trims l D cy sa q rest H.size e5 a1 r81 h81r) (cwV 1 hts (gB_V wB103 wB104 wB105 wB5 wB106) rfl rfl rfl (by decide +kernel) ⟨Nat.le_of_ble_eq_true rfl, Nat.le_of_ble_eq_true rfl⟩) ⟨kP.blind, k_recv hE hP (ci := 6) (q0 := 0) rfl rfl, k_pre hP hD hS hE hA⟩ rfl rfl hl.1 rfl (lv_room (Nat.le_of_ble_eq_true rfl)) dX6_lessens_81 ⟨Nat.zero_le _, Nat.zero_le _⟩) hD hS hA (fun H locs hP hD hS => ?_)
  obtain rfl := o_ret hf
  exact k_vret hx hb hr hP hD hS (Nat.zero_le _) (Nat.zero_le _) hlocks dX6_lessens_84
noncomputable def mX6_isEven (u : KS) (a1 : Int32) : Option (Int32) :=
  gd (inb (12 * a1) 84) (if (((gR u 4) ((12 * a1).toNatClampNeg)) &&& 1) = 0 then
  (some 1)
  else
  (some 0))
abbrev rmX6_isEven : Room := { frames := 0, cells := 0, slots := 0, locals := 0 }
set_option maxRecDepth 100000 in
set_option maxHeartbeats 4000000 in
theorem zX6_isEven (l : Launch) (D : va_G) (cy : Nat → ClassId) (sa : Nat → Nat) (q : Nat → Nat) (rest : va_W) (sz : Nat) (u : KS) (a1 : Int32) (res : Int32) (hf : mX6_isEven u a1 = some res) : kMi l yX6_isEven (wsK yX6_isEven cX6_isEven 2 (some .boolean)) rmX6_isEven D cy sa (WM q cy u ++ rest) sz [.ref (q 0), .int a1] res (WM q cy u ++ rest) 0 0 := by
  refine kM_of (Qc := fun A => kQi D A res (WM q cy u ++ rest)) (cc := cX6_isEven) (maxL := 2) (ret := (some .boolean)) (by decide) (Nat.le_of_ble_eq_true rfl) ?_
  intro p e s m below meth c A hx hb hml hr hts hown hlocks hin hA hP hD hS hE hsz ls hl
  have hown : s.vm.findClass RX6 = some m.cls := hown
  obtain ⟨H, hH0⟩ : ∃ H, H = s.heap := ⟨_, rfl⟩
  obtain ⟨locs, hlocs0⟩ : ∃ locs : List Loc, locs = [] := ⟨_, rfl⟩
  have hP : va_P D vwCl (WM q cy u ++ rest) H := by rw [hH0]; exact hP
  have hS : va_S A s.heap H locs := by rw [hH0, hlocs0]; exact hS
  have hl : lv_has ls 2 [(0, .ref (q 0)), (1, .int a1)] := hl
  suffices hgoal : W p l e rmX6_isEven s m ([.ref (q 0), .int a1] : List Value).toArray below meth c H locs 0 0 (MQ below (kQi D A res (WM q cy u ++ rest)) ([.ref (q 0), .int a1] : List Value).toArray s 0 0 A) (F0 m 0 ls []) by rw [hH0, hlocs0] at hgoal; exact hgoal
  clear hH0 hlocs0
  unfold mX6_isEven at hf
  refine lv_aload_n hx hb dX6_isEven_0 rfl (lv_at hl 0 rfl) ?_
  refine va_get (ci := 6) (v := .ref (q 5)) (C := RX6) (T := TX6) (N := 26) hx hb hts inlX6 hown hE.1 hP 0 rfl rfl 5 (by decide) (hts _ wB88) (fun _ h9 => h9) rfl dX6_isEven_1 ?_
  refine lv_bipush (v := 12) hx hb dX6_isEven_4 (by decide) ?_
  refine lv_iload_n hx hb dX6_isEven_6 rfl (lv_at hl 1 rfl) ?_
  refine lv_imul hx hb dX6_isEven_7 ?_
  obtain ⟨hg8, hf⟩ := gd_s hf
  refine va_iald (f := (gR u 4)) hx hb hE.1 hP 5 0 rfl rfl hg8 dX6_isEven_8 ?_
  refine lv_iconst (v := 1) hx hb dX6_isEven_9 (by decide) ?_
  refine lv_iand hx hb dX6_isEven_10 ?_
  refine lv_if_ne (tgt := 18) hx hb dX6_isEven_11 (by decide) (fun c11 => ?_) (fun c11 => ?_)
  · have hf := o_in c11 hf
    refine lv_iconst (v := 0) hx hb dX6_isEven_18 (by decide) ?_
    obtain rfl := o_ret hf
    exact k_zret (v := 0) hx hb hr hP hD hS rfl (Nat.zero_le _) (Nat.zero_le _) hlocks dX6_isEven_19
  · have hf := o_ip c11 hf
    refine lv_iconst (v := 1) hx hb dX6_isEven_14 (by decide) ?_
    refine lv_goto (tgt := 19) hx hb dX6_isEven_15 (by decide) ?_
    obtain rfl := o_ret hf
    exact k_zret (v := 1) hx hb hr hP hD hS rfl (Nat.zero_le _) (Nat.zero_le _) hlocks dX6_isEven_19
noncomputable def mX6_halves_s2 (c1 : Int32) (s2 : Int32 × KS) : Option ((KS) ⊕ (Int32 × KS)) :=
  gd (inb c1 7) (if ((gR s2.2 5) (c1.toNatClampNeg)) ≤ s2.1 then
  (some (.inl s2.2))
  else
  (gd (inb c1 7) (if ((gR s2.2 5) (c1.toNatClampNeg)) ≤ (s2.1 + 1) then
  (gd (inb ((12 * c1) + s2.1) 84) (gd (inb ((12 * c1) + s2.1) 84) (some (.inr ((s2.1 + 1), (sR s2.2 4 (upd (gR s2.2 4) (((12 * c1) + s2.1).toNatClampNeg) ((((gR s2.2 4) (((12 * c1) + s2.1).toNatClampNeg)) >>> (1 &&& 31)) ||| (((0 : Int32) <<< (29 &&& 31)) : Int32)))))))))
  else
  (gd (inb (((12 * c1) + s2.1) + 1) 84) (gd (inb ((12 * c1) + s2.1) 84) (gd (inb ((12 * c1) + s2.1) 84) (some (.inr ((s2.1 + 1), (sR s2.2 4 (upd (gR s2.2 4) (((12 * c1) + s2.1).toNatClampNeg) ((((gR s2.2 4) (((12 * c1) + s2.1).toNatClampNeg)) >>> (1 &&& 31)) ||| ((((gR s2.2 4) ((((12 * c1) + s2.1) + 1).toNatClampNeg)) &&& 1) <<< (29 &&& 31))))))))))))))
noncomputable def mX6_halves (u : KS) (a1 : Int32) : Option (KS) :=
  (lpF (mX6_halves_s2 a1) (0, u)).bind fun e2 =>
  (mX6_trims e2 a1).bind fun r81 =>
  some r81
abbrev rmX6_halves : Room := { frames := 1, cells := 0, slots := 0, locals := 21 }
set_option maxRecDepth 100000 in
set_option maxHeartbeats 4000000 in
theorem zX6_halves (l : Launch) (D : va_G) (cy : Nat → ClassId) (sa : Nat → Nat) (q : Nat → Nat) (rest : va_W) (sz : Nat) (u : KS) (a1 : Int32) (res : KS) (hf : mX6_halves u a1 = some res) : kMv l yX6_halves (wsK yX6_halves cX6_halves 4 none) rmX6_halves D cy sa (WM q cy u ++ rest) sz [.ref (q 0), .int a1] (WM q cy res ++ rest) 0 0 := by
  refine kM_of (Qc := fun A => kQv D A (WM q cy res ++ rest)) (cc := cX6_halves) (maxL := 4) (ret := none) (by decide) (Nat.le_of_ble_eq_true rfl) ?_
  intro p e s m below meth c A hx hb hml hr hts hown hlocks hin hA hP hD hS hE hsz ls hl
  have hown : s.vm.findClass RX6 = some m.cls := hown
  obtain ⟨H, hH0⟩ : ∃ H, H = s.heap := ⟨_, rfl⟩
  obtain ⟨locs, hlocs0⟩ : ∃ locs : List Loc, locs = [] := ⟨_, rfl⟩
  have hP : va_P D vwCl (WM q cy u ++ rest) H := by rw [hH0]; exact hP
  have hS : va_S A s.heap H locs := by rw [hH0, hlocs0]; exact hS
  have hl : lv_has ls 4 [(0, .ref (q 0)), (1, .int a1)] := hl
  suffices hgoal : W p l e rmX6_halves s m ([.ref (q 0), .int a1] : List Value).toArray below meth c H locs 0 0 (MQ below (kQv D A (WM q cy res ++ rest)) ([.ref (q 0), .int a1] : List Value).toArray s 0 0 A) (F0 m 0 ls []) by rw [hH0, hlocs0] at hgoal; exact hgoal
  clear hH0 hlocs0
  unfold mX6_halves at hf
  refine lv_iconst (v := 0) hx hb dX6_halves_0 (by decide) ?_
  refine lv_istore_n (lv' := [(2, .int 0), (0, .ref (q 0)), (1, .int a1)]) hx hb dX6_halves_1 rfl hl (by decide) rfl (fun ls hl => ?_)
  have L2 : ∀ (n2v : Nat) (s2 : Int32 × KS) (e2 : KS), lpO (mX6_halves_s2 a1) n2v s2 = some e2 → ∀ (H : Heap) (locs : List Loc) (ls : Array Slot), va_P D vwCl (WM q cy s2.2 ++ rest) H → va_D A (WM q cy s2.2 ++ rest) → va_S A s.heap H locs → lv_has ls 4 [(0, .ref (q 0)), (1, .int a1), (2, .int s2.1)] → (∀ (H : Heap) (locs : List Loc) (ls : Array Slot), va_P D vwCl (WM q cy e2 ++ rest) H → va_D A (WM q cy e2 ++ rest) → va_S A s.heap H locs → lv_has ls 4 [(0, .ref (q 0)), (1, .int a1)] → W p l e rmX6_halves s m ([.ref (q 0), .int a1] : List Value).toArray below meth c H locs 0 0 (MQ below (kQv D A (WM q cy res ++ rest)) ([.ref (q 0), .int a1] : List Value).toArray s 0 0 A) (F0 m 79 ls [])) → W p l e rmX6_halves s m ([.ref (q 0), .int a1] : List Value).toArray below meth c H locs 0 0 (MQ below (kQv D A (WM q cy res ++ rest)) ([.ref (q 0), .int a1] : List Value).toArray s 0 0 A) (F0 m 2 ls []) := by
    intro n2v
    induction n2v with
    | zero => intro s2 e2 h; exact (lpO_z h).elim
    | succ n2v ih2 =>
      intro s2 e2 h2z H locs ls hP hD hS hl K2_0
      obtain ⟨x2, hf, h2z⟩ := lpO_s h2z
      unfold mX6_halves_s2 at hf
      refine lv_iload_n hx hb dX6_halves_2 rfl (lv_at hl 2 rfl) ?_
      refine lv_aload_n hx hb dX6_halves_3 rfl (lv_at hl 0 rfl) ?_
      refine va_get (ci := 6) (v := .ref (q 6)) (C := RX6) (T := TX6) (N := 26) hx hb hts inlX6 hown hE.1 hP 0 rfl rfl 6 (by decide) (hts _ wB89) (fun _ h9 => h9) rfl dX6_halves_4 ?_
      refine lv_iload_n hx hb dX6_halves_7 rfl (lv_at hl 1 rfl) ?_
      obtain ⟨hg8, hf⟩ := gd_s hf
      refine va_iald (f := (gR s2.2 5)) hx hb hE.1 hP 6 0 rfl rfl hg8 dX6_halves_8 ?_
      refine lv_icmp_ge (tgt := 79) hx hb dX6_halves_9 (by decide) (fun c9 => ?_) (fun c9 => ?_)
      · have hf := o_ip c9 hf
        obtain rfl := o_ret hf
        obtain rfl := lpK_l h2z
        exact K2_0 _ _ _ hP hD hS (lv_sub hl [0, 1] rfl)
      · have hf := o_in c9 hf
        refine lv_iload_n hx hb dX6_halves_12 rfl (lv_at hl 2 rfl) ?_
        refine lv_iconst (v := 1) hx hb dX6_halves_13 (by decide) ?_
        refine lv_iadd hx hb dX6_halves_14 ?_
        refine lv_aload_n hx hb dX6_halves_15 rfl (lv_at hl 0 rfl) ?_
        refine va_get (ci := 6) (v := .ref (q 6)) (C := RX6) (T := TX6) (N := 26) hx hb hts inlX6 hown hE.1 hP 0 rfl rfl 6 (by decide) (hts _ wB89) (fun _ h9 => h9) rfl dX6_halves_16 ?_
        refine lv_iload_n hx hb dX6_halves_19 rfl (lv_at hl 1 rfl) ?_
        obtain ⟨hg20, hf⟩ := gd_s hf
        refine va_iald (f := (gR s2.2 5)) hx hb hE.1 hP 6 0 rfl rfl hg20 dX6_halves_20 ?_
        refine lv_icmp_ge (tgt := 42) hx hb dX6_halves_21 (by decide) (fun c21 => ?_) (fun c21 => ?_)
        · have hf := o_ip c21 hf
          refine lv_iconst (v := 0) hx hb dX6_halves_42 (by decide) ?_
          refine lv_istore_n (lv' := [(3, .int 0), (0, .ref (q 0)), (1, .int a1), (2, .int s2.1)]) hx hb dX6_halves_43 rfl hl (by decide) rfl (fun ls hl => ?_)
          refine lv_aload_n hx hb dX6_halves_44 rfl (lv_at hl 1 rfl) ?_
          refine va_get (ci := 6) (v := .ref (q 5)) (C := RX6) (T := TX6) (N := 26) hx hb hts inlX6 hown hE.1 hP 0 rfl rfl 5 (by decide) (hts _ wB88) (fun _ h9 => h9) rfl dX6_halves_45 ?_
          refine lv_bipush (v := 12) hx hb dX6_halves_48 (by decide) ?_
          refine lv_iload_n hx hb dX6_halves_50 rfl (lv_at hl 2 rfl) ?_
          refine lv_imul hx hb dX6_halves_51 ?_
          refine lv_iload_n hx hb dX6_halves_52 rfl (lv_at hl 3 rfl) ?_
          refine lv_iadd hx hb dX6_halves_53 ?_
          refine lv_aload_n hx hb dX6_halves_54 rfl (lv_at hl 1 rfl) ?_
          refine va_get (ci := 6) (v := .ref (q 5)) (C := RX6) (T := TX6) (N := 26) hx hb hts inlX6 hown hE.1 hP 0 rfl rfl 5 (by decide) (hts _ wB88) (fun _ h9 => h9) rfl dX6_halves_55 ?_
          refine lv_bipush (v := 12) hx hb dX6_halves_58 (by decide) ?_
          refine lv_iload_n hx hb dX6_halves_60 rfl (lv_at hl 2 rfl) ?_
          refine lv_imul hx hb dX6_halves_61 ?_
          refine lv_iload_n hx hb dX6_halves_62 rfl (lv_at hl 3 rfl) ?_
          refine lv_iadd hx hb dX6_halves_63 ?_
          obtain ⟨hg64, hf⟩ := gd_s hf
          refine va_iald (f := (gR s2.2 4)) hx hb hE.1 hP 5 0 rfl rfl hg64 dX6_halves_64 ?_
          refine lv_iconst (v := 1) hx hb dX6_halves_65 (by decide) ?_
          refine lv_ishr hx hb dX6_halves_66 ?_
          refine lv_iload_n hx hb dX6_halves_67 rfl (lv_at hl 0 rfl) ?_
          refine lv_bipush (v := 29) hx hb dX6_halves_68 (by decide) ?_
          refine lv_ishl hx hb dX6_halves_70 ?_
          refine lv_ior hx hb dX6_halves_71 ?_
          obtain ⟨hg72, hf⟩ := gd_s hf
          refine va_iast (f := (gR s2.2 4)) hx hb hE.1 hP hD hS 5 0 rfl rfl hg72 dX6_halves_72 (fun H locs hP hD hS => ?_)
          have hP : va_P D vwCl (WM q cy (sR s2.2 4 (upd (gR s2.2 4) (((12 * a1) + s2.1).toNatClampNeg) ((((gR s2.2 4) (((12 * a1) + s2.1).toNatClampNeg)) >>> (1 &&& 31)) ||| (((0 : Int32) <<< (29 &&& 31)) : Int32)))) ++ rest) H := hP
          have hD : va_D A (WM q cy (sR s2.2 4 (upd (gR s2.2 4) (((12 * a1) + s2.1).toNatClampNeg) ((((gR s2.2 4) (((12 * a1) + s2.1).toNatClampNeg)) >>> (1 &&& 31)) ||| (((0 : Int32) <<< (29 &&& 31)) : Int32)))) ++ rest) := hD
          refine lv_iinc (v := (s2.1 + 1)) (lv' := [(2, .int (s2.1 + 1)), (3, .int 0), (0, .ref (q 0)), (1, .int a1)]) hx hb dX6_halves_73 hl (k := 3) rfl (by rfl) (by decide) rfl (fun ls hl => ?_)
          refine lv_goto (tgt := 2) hx hb dX6_halves_76 (by decide) ?_
          obtain rfl := o_ret hf
          exact ih2 _ _ (lpK_r h2z) _ _ _ hP hD hS (lv_sub hl [2, 3, 0] rfl) K2_0
        · have hf := o_in c21 hf
          refine lv_aload_n hx hb dX6_halves_24 rfl (lv_at hl 0 rfl) ?_
          refine va_get (ci := 6) (v := .ref (q 5)) (C := RX6) (T := TX6) (N := 26) hx hb hts inlX6 hown hE.1 hP 0 rfl rfl 5 (by decide) (hts _ wB88) (fun _ h9 => h9) rfl dX6_halves_25 ?_
          refine lv_bipush (v := 12) hx hb dX6_halves_28 (by decide) ?_
          refine lv_iload_n hx hb dX6_halves_30 rfl (lv_at hl 1 rfl) ?_
          refine lv_imul hx hb dX6_halves_31 ?_
          refine lv_iload_n hx hb dX6_halves_32 rfl (lv_at hl 2 rfl) ?_
          refine lv_iadd hx hb dX6_halves_33 ?_
          refine lv_iconst (v := 1) hx hb dX6_halves_34 (by decide) ?_
          refine lv_iadd hx hb dX6_halves_35 ?_
          obtain ⟨hg36, hf⟩ := gd_s hf
          refine va_iald (f := (gR s2.2 4)) hx hb hE.1 hP 5 0 rfl rfl hg36 dX6_halves_36 ?_
          refine lv_iconst (v := 1) hx hb dX6_halves_37 (by decide) ?_
          refine lv_iand hx hb dX6_halves_38 ?_
          refine lv_goto (tgt := 43) hx hb dX6_halves_39 (by decide) ?_
          refine lv_istore_n (lv' := [(3, .int (((gR s2.2 4) ((((12 * a1) + s2.1) + 1).toNatClampNeg)) &&& 1)), (0, .ref (q 0)), (1, .int a1), (2, .int s2.1)]) hx hb dX6_halves_43 rfl hl (by decide) rfl (fun ls hl => ?_)
          refine lv_aload_n hx hb dX6_halves_44 rfl (lv_at hl 1 rfl) ?_
          refine va_get (ci := 6) (v := .ref (q 5)) (C := RX6) (T := TX6) (N := 26) hx hb hts inlX6 hown hE.1 hP 0 rfl rfl 5 (by decide) (hts _ wB88) (fun _ h9 => h9) rfl dX6_halves_45 ?_
          refine lv_bipush (v := 12) hx hb dX6_halves_48 (by decide) ?_
          refine lv_iload_n hx hb dX6_halves_50 rfl (lv_at hl 2 rfl) ?_
          refine lv_imul hx hb dX6_halves_51 ?_
          refine lv_iload_n hx hb dX6_halves_52 rfl (lv_at hl 3 rfl) ?_
          refine lv_iadd hx hb dX6_halves_53 ?_
          refine lv_aload_n hx hb dX6_halves_54 rfl (lv_at hl 1 rfl) ?_
          refine va_get (ci := 6) (v := .ref (q 5)) (C := RX6) (T := TX6) (N := 26) hx hb hts inlX6 hown hE.1 hP 0 rfl rfl 5 (by decide) (hts _ wB88) (fun _ h9 => h9) rfl dX6_halves_55 ?_
          refine lv_bipush (v := 12) hx hb dX6_halves_58 (by decide) ?_
          refine lv_iload_n hx hb dX6_halves_60 rfl (lv_at hl 2 rfl) ?_
          refine lv_imul hx hb dX6_halves_61 ?_
          refine lv_iload_n hx hb dX6_halves_62 rfl (lv_at hl 3 rfl) ?_
          refine lv_iadd hx hb dX6_halves_63 ?_
          obtain ⟨hg64, hf⟩ := gd_s hf
          refine va_iald (f := (gR s2.2 4)) hx hb hE.1 hP 5 0 rfl rfl hg64 dX6_halves_64 ?_
          refine lv_iconst (v := 1) hx hb dX6_halves_65 (by decide) ?_
          refine lv_ishr hx hb dX6_halves_66 ?_
          refine lv_iload_n hx hb dX6_halves_67 rfl (lv_at hl 0 rfl) ?_
          refine lv_bipush (v := 29) hx hb dX6_halves_68 (by decide) ?_
          refine lv_ishl hx hb dX6_halves_70 ?_
          refine lv_ior hx hb dX6_halves_71 ?_
          obtain ⟨hg72, hf⟩ := gd_s hf
          refine va_iast (f := (gR s2.2 4)) hx hb hE.1 hP hD hS 5 0 rfl rfl hg72 dX6_halves_72 (fun H locs hP hD hS => ?_)
          have hP : va_P D vwCl (WM q cy (sR s2.2 4 (upd (gR s2.2 4) (((12 * a1) + s2.1).toNatClampNeg) ((((gR s2.2 4) (((12 * a1) + s2.1).toNatClampNeg)) >>> (1 &&& 31)) ||| ((((gR s2.2 4) ((((12 * a1) + s2.1) + 1).toNatClampNeg)) &&& 1) <<< (29 &&& 31))))) ++ rest) H := hP
          have hD : va_D A (WM q cy (sR s2.2 4 (upd (gR s2.2 4) (((12 * a1) + s2.1).toNatClampNeg) ((((gR s2.2 4) (((12 * a1) + s2.1).toNatClampNeg)) >>> (1 &&& 31)) ||| ((((gR s2.2 4) ((((12 * a1) + s2.1) + 1).toNatClampNeg)) &&& 1) <<< (29 &&& 31))))) ++ rest) := hD
          refine lv_iinc (v := (s2.1 + 1)) (lv' := [(2, .int (s2.1 + 1)), (3, .int (((gR s2.2 4) ((((12 * a1) + s2.1) + 1).toNatClampNeg)) &&& 1)), (0, .ref (q 0)), (1, .int a1)]) hx hb dX6_halves_73 hl (k := 3) rfl (by rfl) (by decide) rfl (fun ls hl => ?_)
          refine lv_goto (tgt := 2) hx hb dX6_halves_76 (by decide) ?_
          obtain rfl := o_ret hf
          exact ih2 _ _ (lpK_r h2z) _ _ _ hP hD hS (lv_sub hl [2, 3, 0] rfl) K2_0
  obtain ⟨e2, h2q, hf⟩ := o_bs hf
  obtain ⟨n2v, h2q⟩ := lpF_ex h2q
  refine L2 n2v _ e2 h2q _ _ _ hP hD hS (lv_sub hl [1, 2, 0] rfl) ?_
  intro H locs ls hP hD hS hl
  refine lv_aload_n hx hb dX6_halves_79 rfl (lv_at hl 0 rfl) ?_
  refine lv_iload_n hx hb dX6_halves_80 rfl (lv_at hl 1 rfl) ?_
  obtain ⟨r81, h81r, hf⟩ := o_bs hf
  refine k_gov (va_runV (As := [.int a1]) (rest := []) ⟨hx, hb, hml, hown, hts⟩ (zX6_trims l D cy sa q rest H.size e2 a1 r81 h81r) (cwV 1 hts (gB_V wB103 wB104 wB105 wB5 wB106) rfl rfl rfl (by decide +kernel) ⟨Nat.le_of_ble_eq_true rfl, Nat.le_of_ble_eq_true rfl⟩) ⟨kP.blind, k_recv hE hP (ci := 6) (q0 := 0) rfl rfl, k_pre hP hD hS hE hA⟩ rfl rfl hl.1 rfl (lv_room (Nat.le_of_ble_eq_true rfl)) dX6_halves_81 ⟨Nat.zero_le _, Nat.zero_le _⟩) hD hS hA (fun H locs hP hD hS => ?_)
  obtain rfl := o_ret hf
  exact k_vret hx hb hr hP hD hS (Nat.zero_le _) (Nat.zero_le _) hlocks dX6_halves_84
noncomputable def mX6_parts_s4 (u : KS) (c1 : Int32) (s4 : Int32 × Int32) : Option ((Int32) ⊕ (Int32 × Int32)) :=
  if 5 ≤ s4.2 then
  (some (.inl s4.1))
  else
  (some (.inr ((s4.1 * (2 - (((gR u 4) ((36 : Int32).toNatClampNeg)) * s4.1))), (s4.2 + 1))))
noncomputable def mX6_parts_s70 (c1 : Int32) (c2 : Int32) (c3 : Int32) (c4 : Int32) (c5 : Int32) (s70 : Int64 × Int32 × KS) : Option ((KS) ⊕ (Int64 × Int32 × KS)) :=
  if c3 ≤ (c4 + s70.2.1) then
  (some (.inl s70.2.2))
  else
  (if ((gR s70.2.2 5) ((3 : Int32).toNatClampNeg)) ≤ s70.2.1 then
  (gd (inb (((12 * c1) + c4) + s70.2.1) 84) (gd (inb (((12 * c1) + c4) + s70.2.1) 84) (some (.inr ((-((((((gR s70.2.2 4) ((((12 * c1) + c4) + s70.2.1).toNatClampNeg)).toInt64) - 0) - s70.1) >>> ((30 : Int32).toInt64 &&& 63))), (s70.2.1 + 1), (sR s70.2.2 4 (upd (gR s70.2.2 4) ((((12 * c1) + c4) + s70.2.1).toNatClampNeg) (((((((gR s70.2.2 4) ((((12 * c1) + c4) + s70.2.1).toNatClampNeg)).toInt64) - 0) - s70.1) &&& 1073741823).toInt32))))))))
  else
  (gd (inb (36 + s70.2.1) 84) (gd (inb (((12 * c1) + c4) + s70.2.1) 84) (gd (inb (((12 * c1) + c4) + s70.2.1) 84) (some (.inr ((-((((((gR s70.2.2 4) ((((12 * c1) + c4) + s70.2.1).toNatClampNeg)).toInt64) - ((c5.toInt64) * (((gR s70.2.2 4) ((36 + s70.2.1).toNatClampNeg)).toInt64))) - s70.1) >>> ((30 : Int32).toInt64 &&& 63))), (s70.2.1 + 1), (sR s70.2.2 4 (upd (gR s70.2.2 4) ((((12 * c1) + c4) + s70.2.1).toNatClampNeg) (((((((gR s70.2.2 4) ((((12 * c1) + c4) + s70.2.1).toNatClampNeg)).toInt64) - ((c5.toInt64) * (((gR s70.2.2 4) ((36 + s70.2.1).toNatClampNeg)).toInt64))) - s70.1) &&& 1073741823).toInt32))))))))))
noncomputable def mX6_parts_s39 (c1 : Int32) (c2 : Int32) (c3 : Int32) (s39 : Int32 × KS) : Option ((KS) ⊕ (Int32 × KS)) :=
  if c3 ≤ s39.1 then
  (some (.inl s39.2))
  else
  (gd (inb ((12 * c1) + s39.1) 84) ((lpF (mX6_parts_s70 c1 c2 c3 s39.1 ((((gR s39.2 4) (((12 * c1) + s39.1).toNatClampNeg)) * c2) &&& 1073741823)) (0, 0, s39.2)).bind fun e70 =>
  gd (inb (48 + s39.1) 84) (some (.inr ((s39.1 + 1), (sR e70 4 (upd (gR e70 4) ((48 + s39.1).toNatClampNeg) ((((gR s39.2 4) (((12 * c1) + s39.1).toNatClampNeg)) * c2) &&& 1073741823))))))))
noncomputable def mX6_parts_s192 (c1 : Int32) (c3 : Int32) (s192 : Int32 × KS) : Option ((KS) ⊕ (Int32 × KS)) :=
  if c3 ≤ s192.1 then
  (some (.inl s192.2))
  else
  (gd (inb (48 + s192.1) 84) (gd (inb ((12 * c1) + s192.1) 84) (some (.inr ((s192.1 + 1), (sR s192.2 4 (upd (gR s192.2 4) (((12 * c1) + s192.1).toNatClampNeg) ((gR s192.2 4) ((48 + s192.1).toNatClampNeg)))))))))
noncomputable def mX6_parts (u : KS) (a1 : Int32) : Option (KS) :=
  (lpF (mX6_parts_s4 u a1) (1, 0)).bind fun e4 =>
  gd (inb a1 7) ((lpF (mX6_parts_s39 a1 e4 ((gR u 5) (a1.toNatClampNeg))) (0, u)).bind fun e39 =>
  (lpF (mX6_parts_s192 a1 ((gR u 5) (a1.toNatClampNeg))) (0, e39)).bind fun e192 =>
  (mX6_trims e192 a1).bind fun r228 =>
  some r228)
abbrev rmX6_parts : Room := { frames := 1, cells := 0, slots := 0, locals := 21 }
set_option maxRecDepth 100000 in
set_option maxHeartbeats 4000000 in
theorem zX6_parts (l : Launch) (D : va_G) (cy : Nat → ClassId) (sa : Nat → Nat) (q : Nat → Nat) (rest : va_W) (sz : Nat) (u : KS) (a1 : Int32) (res : KS) (hf : mX6_parts u a1 = some res) : kMv l yX6_parts (wsK yX6_parts cX6_parts 13 none) rmX6_parts D cy sa (WM q cy u ++ rest) sz [.ref (q 0), .int a1] (WM q cy res ++ rest) 0 0 := by
  refine kM_of (Qc := fun A => kQv D A (WM q cy res ++ rest)) (cc := cX6_parts) (maxL := 13) (ret := none) (by decide) (Nat.le_of_ble_eq_true rfl) ?_
  intro p e s m below meth c A hx hb hml hr hts hown hlocks hin hA hP hD hS hE hsz ls hl
  have hown : s.vm.findClass RX6 = some m.cls := hown
  obtain ⟨H, hH0⟩ : ∃ H, H = s.heap := ⟨_, rfl⟩
  obtain ⟨locs, hlocs0⟩ : ∃ locs : List Loc, locs = [] := ⟨_, rfl⟩
  have hP : va_P D vwCl (WM q cy u ++ rest) H := by rw [hH0]; exact hP
  have hS : va_S A s.heap H locs := by rw [hH0, hlocs0]; exact hS
  have hl : lv_has ls 13 [(0, .ref (q 0)), (1, .int a1)] := hl
  suffices hgoal : W p l e rmX6_parts s m ([.ref (q 0), .int a1] : List Value).toArray below meth c H locs 0 0 (MQ below (kQv D A (WM q cy res ++ rest)) ([.ref (q 0), .int a1] : List Value).toArray s 0 0 A) (F0 m 0 ls []) by rw [hH0, hlocs0] at hgoal; exact hgoal
  clear hH0 hlocs0
  unfold mX6_parts at hf
  refine lv_iconst (v := 1) hx hb dX6_parts_0 (by decide) ?_
  refine lv_istore_n (lv' := [(2, .int 1), (0, .ref (q 0)), (1, .int a1)]) hx hb dX6_parts_1 rfl hl (by decide) rfl (fun ls hl => ?_)
  refine lv_iconst (v := 0) hx hb dX6_parts_2 (by decide) ?_
  refine lv_istore_n (lv' := [(3, .int 0), (2, .int 1), (0, .ref (q 0)), (1, .int a1)]) hx hb dX6_parts_3 rfl hl (by decide) rfl (fun ls hl => ?_)
  have L4 : ∀ (n4v : Nat) (s4 : Int32 × Int32) (e4 : Int32), lpO (mX6_parts_s4 u a1) n4v s4 = some e4 → ∀ (H : Heap) (locs : List Loc) (ls : Array Slot), va_P D vwCl (WM q cy u ++ rest) H → va_D A (WM q cy u ++ rest) → va_S A s.heap H locs → lv_has ls 13 [(0, .ref (q 0)), (1, .int a1), (2, .int s4.1), (3, .int s4.2)] → (∀ (H : Heap) (locs : List Loc) (ls : Array Slot), va_P D vwCl (WM q cy u ++ rest) H → va_D A (WM q cy u ++ rest) → va_S A s.heap H locs → lv_has ls 13 [(0, .ref (q 0)), (1, .int a1), (2, .int e4)] → W p l e rmX6_parts s m ([.ref (q 0), .int a1] : List Value).toArray below meth c H locs 0 0 (MQ below (kQv D A (WM q cy res ++ rest)) ([.ref (q 0), .int a1] : List Value).toArray s 0 0 A) (F0 m 29 ls [])) → W p l e rmX6_parts s m ([.ref (q 0), .int a1] : List Value).toArray below meth c H locs 0 0 (MQ below (kQv D A (WM q cy res ++ rest)) ([.ref (q 0), .int a1] : List Value).toArray s 0 0 A) (F0 m 4 ls []) := by
    intro n4v
    induction n4v with
    | zero => intro s4 e4 h; exact (lpO_z h).elim
    | succ n4v ih4 =>
      intro s4 e4 h4z H locs ls hP hD hS hl K4_0
      obtain ⟨x4, hf, h4z⟩ := lpO_s h4z
      unfold mX6_parts_s4 at hf
      refine lv_iload_n hx hb dX6_parts_4 rfl (lv_at hl 3 rfl) ?_
      refine lv_iconst (v := 5) hx hb dX6_parts_5 (by decide) ?_
      refine lv_icmp_ge (tgt := 29) hx hb dX6_parts_6 (by decide) (fun c6 => ?_) (fun c6 => ?_)
      · have hf := o_ip c6 hf
        obtain rfl := o_ret hf
        obtain rfl := lpK_l h4z
        exact K4_0 _ _ _ hP hD hS (lv_sub hl [0, 1, 2] rfl)
      · have hf := o_in c6 hf
        refine lv_iload_n hx hb dX6_parts_9 rfl (lv_at hl 2 rfl) ?_
        refine lv_iconst (v := 2) hx hb dX6_parts_10 (by decide) ?_
        refine lv_aload_n hx hb dX6_parts_11 rfl (lv_at hl 0 rfl) ?_
        refine va_get (ci := 6) (v := .ref (q 5)) (C := RX6) (T := TX6) (N := 26) hx hb hts inlX6 hown hE.1 hP 0 rfl rfl 5 (by decide) (hts _ wB88) (fun _ h9 => h9) rfl dX6_parts_12 ?_
        refine lv_bipush (v := 36) hx hb dX6_parts_15 (by decide) ?_
        refine va_iald (f := (gR u 4)) hx hb hE.1 hP 5 0 rfl rfl (k_in (by decide)) dX6_parts_17 ?_
        refine lv_iload_n hx hb dX6_parts_18 rfl (lv_at hl 2 rfl) ?_
        refine lv_imul hx hb dX6_parts_19 ?_
        refine lv_isub hx hb dX6_parts_20 ?_
        refine lv_imul hx hb dX6_parts_21 ?_
        refine lv_istore_n (lv' := [(2, .int (s4.1 * (2 - (((gR u 4) ((36 : Int32).toNatClampNeg)) * s4.1)))), (0, .ref (q 0)), (1, .int a1), (3, .int s4.2)]) hx hb dX6_parts_22 rfl hl (by decide) rfl (fun ls hl => ?_)
        refine lv_iinc (v := (s4.2 + 1)) (lv' := [(3, .int (s4.2 + 1)), (2, .int (s4.1 * (2 - (((gR u 4) ((36 : Int32).toNatClampNeg)) * s4.1)))), (0, .ref (q 0)), (1, .int a1)]) hx hb dX6_parts_23 hl (k := 3) rfl (by rfl) (by decide) rfl (fun ls hl => ?_)
        refine lv_goto (tgt := 4) hx hb dX6_parts_26 (by decide) ?_
        obtain rfl := o_ret hf
        exact ih4 _ _ (lpK_r h4z) _ _ _ hP hD hS (lv_sub hl [2, 3, 1, 0] rfl) K4_0
  obtain ⟨e4, h4q, hf⟩ := o_bs hf
  obtain ⟨n4v, h4q⟩ := lpF_ex h4q
  refine L4 n4v _ e4 h4q _ _ _ hP hD hS (lv_sub hl [2, 3, 1, 0] rfl) ?_
  intro H locs ls hP hD hS hl
  refine lv_aload_n hx hb dX6_parts_29 rfl (lv_at hl 0 rfl) ?_
  refine va_get (ci := 6) (v := .ref (q 6)) (C := RX6) (T := TX6) (N := 26) hx hb hts inlX6 hown hE.1 hP 0 rfl rfl 6 (by decide) (hts _ wB89) (fun _ h9 => h9) rfl dX6_parts_30 ?_
  refine lv_iload_n hx hb dX6_parts_33 rfl (lv_at hl 1 rfl) ?_
  obtain ⟨hg34, hf⟩ := gd_s hf
  refine va_iald (f := (gR u 5)) hx hb hE.1 hP 6 0 rfl rfl hg34 dX6_parts_34 ?_
  refine lv_istore_n (lv' := [(3, .int ((gR u 5) (a1.toNatClampNeg))), (0, .ref (q 0)), (1, .int a1), (2, .int e4)]) hx hb dX6_parts_35 rfl hl (by decide) rfl (fun ls hl => ?_)
  refine lv_iconst (v := 0) hx hb dX6_parts_36 (by decide) ?_
  refine lv_istore (lv' := [(4, .int 0), (3, .int ((gR u 5) (a1.toNatClampNeg))), (0, .ref (q 0)), (1, .int a1), (2, .int e4)]) hx hb dX6_parts_37 hl (by decide) rfl (fun ls hl => ?_)
  have L39 : ∀ (n39v : Nat) (s39 : Int32 × KS) (e39 : KS), lpO (mX6_parts_s39 a1 e4 ((gR u 5) (a1.toNatClampNeg))) n39v s39 = some e39 → ∀ (H : Heap) (locs : List Loc) (ls : Array Slot), va_P D vwCl (WM q cy s39.2 ++ rest) H → va_D A (WM q cy s39.2 ++ rest) → va_S A s.heap H locs → lv_has ls 13 [(0, .ref (q 0)), (1, .int a1), (2, .int e4), (3, .int ((gR u 5) (a1.toNatClampNeg))), (4, .int s39.1)] → (∀ (H : Heap) (locs : List Loc) (ls : Array Slot), va_P D vwCl (WM q cy e39 ++ rest) H → va_D A (WM q cy e39 ++ rest) → va_S A s.heap H locs → lv_has ls 13 [(0, .ref (q 0)), (1, .int a1), (3, .int ((gR u 5) (a1.toNatClampNeg)))] → W p l e rmX6_parts s m ([.ref (q 0), .int a1] : List Value).toArray below meth c H locs 0 0 (MQ below (kQv D A (WM q cy res ++ rest)) ([.ref (q 0), .int a1] : List Value).toArray s 0 0 A) (F0 m 189 ls [])) → W p l e rmX6_parts s m ([.ref (q 0), .int a1] : List Value).toArray below meth c H locs 0 0 (MQ below (kQv D A (WM q cy res ++ rest)) ([.ref (q 0), .int a1] : List Value).toArray s 0 0 A) (F0 m 39 ls []) := by
    intro n39v
    induction n39v with
    | zero => intro s39 e39 h; exact (lpO_z h).elim
    | succ n39v ih39 =>
      intro s39 e39 h39z H locs ls hP hD hS hl K39_0
      obtain ⟨x39, hf, h39z⟩ := lpO_s h39z
      unfold mX6_parts_s39 at hf
      refine lv_iload hx hb dX6_parts_39 (lv_at hl 4 rfl) ?_
      refine lv_iload_n hx hb dX6_parts_41 rfl (lv_at hl 3 rfl) ?_
      refine lv_icmp_ge (tgt := 189) hx hb dX6_parts_42 (by decide) (fun c42 => ?_) (fun c42 => ?_)
      · have hf := o_ip c42 hf
        obtain rfl := o_ret hf
        obtain rfl := lpK_l h39z
        exact K39_0 _ _ _ hP hD hS (lv_sub hl [0, 1, 3] rfl)
      · have hf := o_in c42 hf
        refine lv_aload_n hx hb dX6_parts_45 rfl (lv_at hl 0 rfl) ?_
        refine va_get (ci := 6) (v := .ref (q 5)) (C := RX6) (T := TX6) (N := 26) hx hb hts inlX6 hown hE.1 hP 0 rfl rfl 5 (by decide) (hts _ wB88) (fun _ h9 => h9) rfl dX6_parts_46 ?_
        refine lv_bipush (v := 12) hx hb dX6_parts_49 (by decide) ?_
        refine lv_iload_n hx hb dX6_parts_51 rfl (lv_at hl 1 rfl) ?_
        refine lv_imul hx hb dX6_parts_52 ?_
        refine lv_iload hx hb dX6_parts_53 (lv_at hl 4 rfl) ?_
        refine lv_iadd hx hb dX6_parts_55 ?_
        obtain ⟨hg56, hf⟩ := gd_s hf
        refine va_iald (f := (gR s39.2 4)) hx hb hE.1 hP 5 0 rfl rfl hg56 dX6_parts_56 ?_
        refine lv_iload_n hx hb dX6_parts_57 rfl (lv_at hl 2 rfl) ?_
        refine lv_imul hx hb dX6_parts_58 ?_
        refine lv_ldc (v := 1073741823) hx hb hown (hts _ wB609) dX6_parts_59 ?_
        refine lv_iand hx hb dX6_parts_61 ?_
        refine lv_istore (lv' := [(5, .int ((((gR s39.2 4) (((12 * a1) + s39.1).toNatClampNeg)) * e4) &&& 1073741823)), (0, .ref (q 0)), (1, .int a1), (2, .int e4), (3, .int ((gR u 5) (a1.toNatClampNeg))), (4, .int s39.1)]) hx hb dX6_parts_62 hl (by decide) rfl (fun ls hl => ?_)
        refine lv_lconst (v := 0) hx hb dX6_parts_64 (by decide) ?_
        refine lv_lstore (lv' := [(6, .long 0), (5, .int ((((gR s39.2 4) (((12 * a1) + s39.1).toNatClampNeg)) * e4) &&& 1073741823)), (0, .ref (q 0)), (1, .int a1), (2, .int e4), (3, .int ((gR u 5) (a1.toNatClampNeg))), (4, .int s39.1)]) hx hb dX6_parts_65 hl (by decide) rfl (fun ls hl => ?_)
        refine lv_iconst (v := 0) hx hb dX6_parts_67 (by decide) ?_
        refine lv_istore (lv' := [(8, .int 0), (6, .long 0), (5, .int ((((gR s39.2 4) (((12 * a1) + s39.1).toNatClampNeg)) * e4) &&& 1073741823)), (0, .ref (q 0)), (1, .int a1), (2, .int e4), (3, .int ((gR u 5) (a1.toNatClampNeg))), (4, .int s39.1)]) hx hb dX6_parts_68 hl (by decide) rfl (fun ls hl => ?_)
        have L70 : ∀ (n70v : Nat) (s70 : Int64 × Int32 × KS) (e70 : KS), lpO (mX6_parts_s70 a1 e4 ((gR u 5) (a1.toNatClampNeg)) s39.1 ((((gR s39.2 4) (((12 * a1) + s39.1).toNatClampNeg)) * e4) &&& 1073741823)) n70v s70 = some e70 → ∀ (H : Heap) (locs : List Loc) (ls : Array Slot), va_P D vwCl (WM q cy s70.2.2 ++ rest) H → va_D A (WM q cy s70.2.2 ++ rest) → va_S A s.heap H locs → lv_has ls 13 [(0, .ref (q 0)), (1, .int a1), (2, .int e4), (3, .int ((gR u 5) (a1.toNatClampNeg))), (4, .int s39.1), (5, .int ((((gR s39.2 4) (((12 * a1) + s39.1).toNatClampNeg)) * e4) &&& 1073741823)), (6, .long s70.1), (8, .int s70.2.1)] → (∀ (H : Heap) (locs : List Loc) (ls : Array Slot), va_P D vwCl (WM q cy e70 ++ rest) H → va_D A (WM q cy e70 ++ rest) → va_S A s.heap H locs → lv_has ls 13 [(0, .ref (q 0)), (1, .int a1), (2, .int e4), (3, .int ((gR u 5) (a1.toNatClampNeg))), (4, .int s39.1), (5, .int ((((gR s39.2 4) (((12 * a1) + s39.1).toNatClampNeg)) * e4) &&& 1073741823))] → W p l e rmX6_parts s m ([.ref (q 0), .int a1] : List Value).toArray below meth c H locs 0 0 (MQ below (kQv D A (WM q cy res ++ rest)) ([.ref (q 0), .int a1] : List Value).toArray s 0 0 A) (F0 m 171 ls [])) → W p l e rmX6_parts s m ([.ref (q 0), .int a1] : List Value).toArray below meth c H locs 0 0 (MQ below (kQv D A (WM q cy res ++ rest)) ([.ref (q 0), .int a1] : List Value).toArray s 0 0 A) (F0 m 70 ls []) := by
          intro n70v
          induction n70v with
          | zero => intro s70 e70 h; exact (lpO_z h).elim
          | succ n70v ih70 =>
            intro s70 e70 h70z H locs ls hP hD hS hl K70_0
            obtain ⟨x70, hf, h70z⟩ := lpO_s h70z
            unfold mX6_parts_s70 at hf
            refine lv_iload hx hb dX6_parts_70 (lv_at hl 4 rfl) ?_
            refine lv_iload hx hb dX6_parts_72 (lv_at hl 7 rfl) ?_
            refine lv_iadd hx hb dX6_parts_74 ?_
            refine lv_iload_n hx hb dX6_parts_75 rfl (lv_at hl 3 rfl) ?_
            refine lv_icmp_ge (tgt := 171) hx hb dX6_parts_76 (by decide) (fun c76 => ?_) (fun c76 => ?_)
            · have hf := o_ip c76 hf
              obtain rfl := o_ret hf
              obtain rfl := lpK_l h70z
              exact K70_0 _ _ _ hP hD hS (lv_sub hl [0, 1, 2, 3, 4, 5] rfl)
            · have hf := o_in c76 hf
              refine lv_iload hx hb dX6_parts_79 (lv_at hl 7 rfl) ?_
              refine lv_aload_n hx hb dX6_parts_81 rfl (lv_at hl 0 rfl) ?_
              refine va_get (ci := 6) (v := .ref (q 6)) (C := RX6) (T := TX6) (N := 26) hx hb hts inlX6 hown hE.1 hP 0 rfl rfl 6 (by decide) (hts _ wB89) (fun _ h9 => h9) rfl dX6_parts_82 ?_
              refine lv_iconst (v := 3) hx hb dX6_parts_85 (by decide) ?_
              refine va_iald (f := (gR s70.2.2 5)) hx hb hE.1 hP 6 0 rfl rfl (k_in (by decide)) dX6_parts_86 ?_
              refine lv_icmp_ge (tgt := 108) hx hb dX6_parts_87 (by decide) (fun c87 => ?_) (fun c87 => ?_)
              · have hf := o_ip c87 hf
                refine lv_lconst (v := 0) hx hb dX6_parts_108 (by decide) ?_
                refine lv_lstore (lv' := [(9, .long 0), (0, .ref (q 0)), (1, .int a1), (2, .int e4), (3, .int ((gR u 5) (a1.toNatClampNeg))), (4, .int s39.1), (5, .int ((((gR s39.2 4) (((12 * a1) + s39.1).toNatClampNeg)) * e4) &&& 1073741823)), (6, .long s70.1), (8, .int s70.2.1)]) hx hb dX6_parts_109 hl (by decide) rfl (fun ls hl => ?_)
                refine lv_aload_n hx hb dX6_parts_111 rfl (lv_at hl 1 rfl) ?_
                refine va_get (ci := 6) (v := .ref (q 5)) (C := RX6) (T := TX6) (N := 26) hx hb hts inlX6 hown hE.1 hP 0 rfl rfl 5 (by decide) (hts _ wB88) (fun _ h9 => h9) rfl dX6_parts_112 ?_
                refine lv_bipush (v := 12) hx hb dX6_parts_115 (by decide) ?_
                refine lv_iload_n hx hb dX6_parts_117 rfl (lv_at hl 2 rfl) ?_
                refine lv_imul hx hb dX6_parts_118 ?_
                refine lv_iload hx hb dX6_parts_119 (lv_at hl 5 rfl) ?_
                refine lv_iadd hx hb dX6_parts_121 ?_
                refine lv_iload hx hb dX6_parts_122 (lv_at hl 8 rfl) ?_
                refine lv_iadd hx hb dX6_parts_124 ?_
                obtain ⟨hg125, hf⟩ := gd_s hf
                refine va_iald (f := (gR s70.2.2 4)) hx hb hE.1 hP 5 0 rfl rfl hg125 dX6_parts_125 ?_
                refine lv_i2l (v := (((gR s70.2.2 4) ((((12 * a1) + s39.1) + s70.2.1).toNatClampNeg)).toInt64)) hx hb dX6_parts_126 rfl ?_
                refine lv_lload hx hb dX6_parts_127 (lv_at hl 0 rfl) ?_
                refine lv_lsub hx hb dX6_parts_129 ?_
                refine lv_lload hx hb dX6_parts_130 (lv_at hl 7 rfl) ?_
                refine lv_lsub hx hb dX6_parts_132 ?_
                refine lv_lstore (lv' := [(11, .long (((((gR s70.2.2 4) ((((12 * a1) + s39.1) + s70.2.1).toNatClampNeg)).toInt64) - 0) - s70.1)), (9, .long 0), (0, .ref (q 0)), (1, .int a1), (2, .int e4), (3, .int ((gR u 5) (a1.toNatClampNeg))), (4, .int s39.1), (5, .int ((((gR s39.2 4) (((12 * a1) + s39.1).toNatClampNeg)) * e4) &&& 1073741823)), (6, .long s70.1), (8, .int s70.2.1)]) hx hb dX6_parts_133 hl (by decide) rfl (fun ls hl => ?_)
                refine lv_aload_n hx hb dX6_parts_135 rfl (lv_at hl 2 rfl) ?_
                refine va_get (ci := 6) (v := .ref (q 5)) (C := RX6) (T := TX6) (N := 26) hx hb hts inlX6 hown hE.1 hP 0 rfl rfl 5 (by decide) (hts _ wB88) (fun _ h9 => h9) rfl dX6_parts_136 ?_
                refine lv_bipush (v := 12) hx hb dX6_parts_139 (by decide) ?_
                refine lv_iload_n hx hb dX6_parts_141 rfl (lv_at hl 3 rfl) ?_
                refine lv_imul hx hb dX6_parts_142 ?_
                refine lv_iload hx hb dX6_parts_143 (lv_at hl 6 rfl) ?_
                refine lv_iadd hx hb dX6_parts_145 ?_
                refine lv_iload hx hb dX6_parts_146 (lv_at hl 9 rfl) ?_
                refine lv_iadd hx hb dX6_parts_148 ?_
                refine lv_lload hx hb dX6_parts_149 (lv_at hl 0 rfl) ?_
                refine lv_ldc2 (v := 1073741823) hx hb hown (hts _ wB102) dX6_parts_151 ?_
                refine lv_land hx hb dX6_parts_154 ?_
                refine lv_l2i (v := (((((((gR s70.2.2 4) ((((12 * a1) + s39.1) + s70.2.1).toNatClampNeg)).toInt64) - 0) - s70.1) &&& 1073741823).toInt32)) hx hb dX6_parts_155 rfl ?_
                obtain ⟨hg156, hf⟩ := gd_s hf
                refine va_iast (f := (gR s70.2.2 4)) hx hb hE.1 hP hD hS 5 0 rfl rfl hg156 dX6_parts_156 (fun H locs hP hD hS => ?_)
                have hP : va_P D vwCl (WM q cy (sR s70.2.2 4 (upd (gR s70.2.2 4) ((((12 * a1) + s39.1) + s70.2.1).toNatClampNeg) (((((((gR s70.2.2 4) ((((12 * a1) + s39.1) + s70.2.1).toNatClampNeg)).toInt64) - 0) - s70.1) &&& 1073741823).toInt32))) ++ rest) H := hP
                have hD : va_D A (WM q cy (sR s70.2.2 4 (upd (gR s70.2.2 4) ((((12 * a1) + s39.1) + s70.2.1).toNatClampNeg) (((((((gR s70.2.2 4) ((((12 * a1) + s39.1) + s70.2.1).toNatClampNeg)).toInt64) - 0) - s70.1) &&& 1073741823).toInt32))) ++ rest) := hD
                refine lv_lload hx hb dX6_parts_157 (lv_at hl 0 rfl) ?_
                refine lv_bipush (v := 30) hx hb dX6_parts_159 (by decide) ?_
                refine lv_lshr (v := ((((((gR s70.2.2 4) ((((12 * a1) + s39.1) + s70.2.1).toNatClampNeg)).toInt64) - 0) - s70.1) >>> ((30 : Int32).toInt64 &&& 63))) hx hb dX6_parts_161 rfl ?_
                refine lv_lneg hx hb dX6_parts_162 ?_
                refine lv_lstore (lv' := [(6, .long (-((((((gR s70.2.2 4) ((((12 * a1) + s39.1) + s70.2.1).toNatClampNeg)).toInt64) - 0) - s70.1) >>> ((30 : Int32).toInt64 &&& 63)))), (11, .long (((((gR s70.2.2 4) ((((12 * a1) + s39.1) + s70.2.1).toNatClampNeg)).toInt64) - 0) - s70.1)), (9, .long 0), (0, .ref (q 0)), (1, .int a1), (2, .int e4), (3, .int ((gR u 5) (a1.toNatClampNeg))), (4, .int s39.1), (5, .int ((((gR s39.2 4) (((12 * a1) + s39.1).toNatClampNeg)) * e4) &&& 1073741823)), (8, .int s70.2.1)]) hx hb dX6_parts_163 hl (by decide) rfl (fun ls hl => ?_)
                refine lv_iinc (v := (s70.2.1 + 1)) (lv' := [(8, .int (s70.2.1 + 1)), (6, .long (-((((((gR s70.2.2 4) ((((12 * a1) + s39.1) + s70.2.1).toNatClampNeg)).toInt64) - 0) - s70.1) >>> ((30 : Int32).toInt64 &&& 63)))), (11, .long (((((gR s70.2.2 4) ((((12 * a1) + s39.1) + s70.2.1).toNatClampNeg)).toInt64) - 0) - s70.1)), (9, .long 0), (0, .ref (q 0)), (1, .int a1), (2, .int e4), (3, .int ((gR u 5) (a1.toNatClampNeg))), (4, .int s39.1), (5, .int ((((gR s39.2 4) (((12 * a1) + s39.1).toNatClampNeg)) * e4) &&& 1073741823))]) hx hb dX6_parts_165 hl (k := 9) rfl (by rfl) (by decide) rfl (fun ls hl => ?_)
                refine lv_goto (tgt := 70) hx hb dX6_parts_168 (by decide) ?_
                obtain rfl := o_ret hf
                exact ih70 _ _ (lpK_r h70z) _ _ _ hP hD hS (lv_sub hl [4, 5, 6, 7, 8, 9, 1, 0] rfl) K70_0
              · have hf := o_in c87 hf
                refine lv_iload hx hb dX6_parts_90 (lv_at hl 5 rfl) ?_
                refine lv_i2l (v := (((((gR s39.2 4) (((12 * a1) + s39.1).toNatClampNeg)) * e4) &&& 1073741823).toInt64)) hx hb dX6_parts_92 rfl ?_
                refine lv_aload_n hx hb dX6_parts_93 rfl (lv_at hl 0 rfl) ?_
                refine va_get (ci := 6) (v := .ref (q 5)) (C := RX6) (T := TX6) (N := 26) hx hb hts inlX6 hown hE.1 hP 0 rfl rfl 5 (by decide) (hts _ wB88) (fun _ h9 => h9) rfl dX6_parts_94 ?_
                refine lv_bipush (v := 36) hx hb dX6_parts_97 (by decide) ?_
                refine lv_iload hx hb dX6_parts_99 (lv_at hl 7 rfl) ?_
                refine lv_iadd hx hb dX6_parts_101 ?_
                obtain ⟨hg102, hf⟩ := gd_s hf
                refine va_iald (f := (gR s70.2.2 4)) hx hb hE.1 hP 5 0 rfl rfl hg102 dX6_parts_102 ?_
                refine lv_i2l (v := (((gR s70.2.2 4) ((36 + s70.2.1).toNatClampNeg)).toInt64)) hx hb dX6_parts_103 rfl ?_
                refine lv_lmul hx hb dX6_parts_104 ?_
                refine lv_goto (tgt := 109) hx hb dX6_parts_105 (by decide) ?_
                refine lv_lstore (lv' := [(9, .long ((((((gR s39.2 4) (((12 * a1) + s39.1).toNatClampNeg)) * e4) &&& 1073741823).toInt64) * (((gR s70.2.2 4) ((36 + s70.2.1).toNatClampNeg)).toInt64))), (0, .ref (q 0)), (1, .int a1), (2, .int e4), (3, .int ((gR u 5) (a1.toNatClampNeg))), (4, .int s39.1), (5, .int ((((gR s39.2 4) (((12 * a1) + s39.1).toNatClampNeg)) * e4) &&& 1073741823)), (6, .long s70.1), (8, .int s70.2.1)]) hx hb dX6_parts_109 hl (by decide) rfl (fun ls hl => ?_)
                refine lv_aload_n hx hb dX6_parts_111 rfl (lv_at hl 1 rfl) ?_
                refine va_get (ci := 6) (v := .ref (q 5)) (C := RX6) (T := TX6) (N := 26) hx hb hts inlX6 hown hE.1 hP 0 rfl rfl 5 (by decide) (hts _ wB88) (fun _ h9 => h9) rfl dX6_parts_112 ?_
                refine lv_bipush (v := 12) hx hb dX6_parts_115 (by decide) ?_
                refine lv_iload_n hx hb dX6_parts_117 rfl (lv_at hl 2 rfl) ?_
                refine lv_imul hx hb dX6_parts_118 ?_
                refine lv_iload hx hb dX6_parts_119 (lv_at hl 5 rfl) ?_
                refine lv_iadd hx hb dX6_parts_121 ?_
                refine lv_iload hx hb dX6_parts_122 (lv_at hl 8 rfl) ?_
                refine lv_iadd hx hb dX6_parts_124 ?_
                obtain ⟨hg125, hf⟩ := gd_s hf
                refine va_iald (f := (gR s70.2.2 4)) hx hb hE.1 hP 5 0 rfl rfl hg125 dX6_parts_125 ?_
                refine lv_i2l (v := (((gR s70.2.2 4) ((((12 * a1) + s39.1) + s70.2.1).toNatClampNeg)).toInt64)) hx hb dX6_parts_126 rfl ?_
                refine lv_lload hx hb dX6_parts_127 (lv_at hl 0 rfl) ?_
                refine lv_lsub hx hb dX6_parts_129 ?_
                refine lv_lload hx hb dX6_parts_130 (lv_at hl 7 rfl) ?_
                refine lv_lsub hx hb dX6_parts_132 ?_
                refine lv_lstore (lv' := [(11, .long (((((gR s70.2.2 4) ((((12 * a1) + s39.1) + s70.2.1).toNatClampNeg)).toInt64) - ((((((gR s39.2 4) (((12 * a1) + s39.1).toNatClampNeg)) * e4) &&& 1073741823).toInt64) * (((gR s70.2.2 4) ((36 + s70.2.1).toNatClampNeg)).toInt64))) - s70.1)), (9, .long ((((((gR s39.2 4) (((12 * a1) + s39.1).toNatClampNeg)) * e4) &&& 1073741823).toInt64) * (((gR s70.2.2 4) ((36 + s70.2.1).toNatClampNeg)).toInt64))), (0, .ref (q 0)), (1, .int a1), (2, .int e4), (3, .int ((gR u 5) (a1.toNatClampNeg))), (4, .int s39.1), (5, .int ((((gR s39.2 4) (((12 * a1) + s39.1).toNatClampNeg)) * e4) &&& 1073741823)), (6, .long s70.1), (8, .int s70.2.1)]) hx hb dX6_parts_133 hl (by decide) rfl (fun ls hl => ?_)
                refine lv_aload_n hx hb dX6_parts_135 rfl (lv_at hl 2 rfl) ?_
                refine va_get (ci := 6) (v := .ref (q 5)) (C := RX6) (T := TX6) (N := 26) hx hb hts inlX6 hown hE.1 hP 0 rfl rfl 5 (by decide) (hts _ wB88) (fun _ h9 => h9) rfl dX6_parts_136 ?_
                refine lv_bipush (v := 12) hx hb dX6_parts_139 (by decide) ?_
                refine lv_iload_n hx hb dX6_parts_141 rfl (lv_at hl 3 rfl) ?_
                refine lv_imul hx hb dX6_parts_142 ?_
                refine lv_iload hx hb dX6_parts_143 (lv_at hl 6 rfl) ?_
                refine lv_iadd hx hb dX6_parts_145 ?_
                refine lv_iload hx hb dX6_parts_146 (lv_at hl 9 rfl) ?_
                refine lv_iadd hx hb dX6_parts_148 ?_
                refine lv_lload hx hb dX6_parts_149 (lv_at hl 0 rfl) ?_
                refine lv_ldc2 (v := 1073741823) hx hb hown (hts _ wB102) dX6_parts_151 ?_
                refine lv_land hx hb dX6_parts_154 ?_
                refine lv_l2i (v := (((((((gR s70.2.2 4) ((((12 * a1) + s39.1) + s70.2.1).toNatClampNeg)).toInt64) - ((((((gR s39.2 4) (((12 * a1) + s39.1).toNatClampNeg)) * e4) &&& 1073741823).toInt64) * (((gR s70.2.2 4) ((36 + s70.2.1).toNatClampNeg)).toInt64))) - s70.1) &&& 1073741823).toInt32)) hx hb dX6_parts_155 rfl ?_
                obtain ⟨hg156, hf⟩ := gd_s hf
                refine va_iast (f := (gR s70.2.2 4)) hx hb hE.1 hP hD hS 5 0 rfl rfl hg156 dX6_parts_156 (fun H locs hP hD hS => ?_)
                have hP : va_P D vwCl (WM q cy (sR s70.2.2 4 (upd (gR s70.2.2 4) ((((12 * a1) + s39.1) + s70.2.1).toNatClampNeg) (((((((gR s70.2.2 4) ((((12 * a1) + s39.1) + s70.2.1).toNatClampNeg)).toInt64) - ((((((gR s39.2 4) (((12 * a1) + s39.1).toNatClampNeg)) * e4) &&& 1073741823).toInt64) * (((gR s70.2.2 4) ((36 + s70.2.1).toNatClampNeg)).toInt64))) - s70.1) &&& 1073741823).toInt32))) ++ rest) H := hP
                have hD : va_D A (WM q cy (sR s70.2.2 4 (upd (gR s70.2.2 4) ((((12 * a1) + s39.1) + s70.2.1).toNatClampNeg) (((((((gR s70.2.2 4) ((((12 * a1) + s39.1) + s70.2.1).toNatClampNeg)).toInt64) - ((((((gR s39.2 4) (((12 * a1) + s39.1).toNatClampNeg)) * e4) &&& 1073741823).toInt64) * (((gR s70.2.2 4) ((36 + s70.2.1).toNatClampNeg)).toInt64))) - s70.1) &&& 1073741823).toInt32))) ++ rest) := hD
                refine lv_lload hx hb dX6_parts_157 (lv_at hl 0 rfl) ?_
                refine lv_bipush (v := 30) hx hb dX6_parts_159 (by decide) ?_
                refine lv_lshr (v := ((((((gR s70.2.2 4) ((((12 * a1) + s39.1) + s70.2.1).toNatClampNeg)).toInt64) - ((((((gR s39.2 4) (((12 * a1) + s39.1).toNatClampNeg)) * e4) &&& 1073741823).toInt64) * (((gR s70.2.2 4) ((36 + s70.2.1).toNatClampNeg)).toInt64))) - s70.1) >>> ((30 : Int32).toInt64 &&& 63))) hx hb dX6_parts_161 rfl ?_
                refine lv_lneg hx hb dX6_parts_162 ?_
                refine lv_lstore (lv' := [(6, .long (-((((((gR s70.2.2 4) ((((12 * a1) + s39.1) + s70.2.1).toNatClampNeg)).toInt64) - ((((((gR s39.2 4) (((12 * a1) + s39.1).toNatClampNeg)) * e4) &&& 1073741823).toInt64) * (((gR s70.2.2 4) ((36 + s70.2.1).toNatClampNeg)).toInt64))) - s70.1) >>> ((30 : Int32).toInt64 &&& 63)))), (11, .long (((((gR s70.2.2 4) ((((12 * a1) + s39.1) + s70.2.1).toNatClampNeg)).toInt64) - ((((((gR s39.2 4) (((12 * a1) + s39.1).toNatClampNeg)) * e4) &&& 1073741823).toInt64) * (((gR s70.2.2 4) ((36 + s70.2.1).toNatClampNeg)).toInt64))) - s70.1)), (9, .long ((((((gR s39.2 4) (((12 * a1) + s39.1).toNatClampNeg)) * e4) &&& 1073741823).toInt64) * (((gR s70.2.2 4) ((36 + s70.2.1).toNatClampNeg)).toInt64))), (0, .ref (q 0)), (1, .int a1), (2, .int e4), (3, .int ((gR u 5) (a1.toNatClampNeg))), (4, .int s39.1), (5, .int ((((gR s39.2 4) (((12 * a1) + s39.1).toNatClampNeg)) * e4) &&& 1073741823)), (8, .int s70.2.1)]) hx hb dX6_parts_163 hl (by decide) rfl (fun ls hl => ?_)
                refine lv_iinc (v := (s70.2.1 + 1)) (lv' := [(8, .int (s70.2.1 + 1)), (6, .long (-((((((gR s70.2.2 4) ((((12 * a1) + s39.1) + s70.2.1).toNatClampNeg)).toInt64) - ((((((gR s39.2 4) (((12 * a1) + s39.1).toNatClampNeg)) * e4) &&& 1073741823).toInt64) * (((gR s70.2.2 4) ((36 + s70.2.1).toNatClampNeg)).toInt64))) - s70.1) >>> ((30 : Int32).toInt64 &&& 63)))), (11, .long (((((gR s70.2.2 4) ((((12 * a1) + s39.1) + s70.2.1).toNatClampNeg)).toInt64) - ((((((gR s39.2 4) (((12 * a1) + s39.1).toNatClampNeg)) * e4) &&& 1073741823).toInt64) * (((gR s70.2.2 4) ((36 + s70.2.1).toNatClampNeg)).toInt64))) - s70.1)), (9, .long ((((((gR s39.2 4) (((12 * a1) + s39.1).toNatClampNeg)) * e4) &&& 1073741823).toInt64) * (((gR s70.2.2 4) ((36 + s70.2.1).toNatClampNeg)).toInt64))), (0, .ref (q 0)), (1, .int a1), (2, .int e4), (3, .int ((gR u 5) (a1.toNatClampNeg))), (4, .int s39.1), (5, .int ((((gR s39.2 4) (((12 * a1) + s39.1).toNatClampNeg)) * e4) &&& 1073741823))]) hx hb dX6_parts_165 hl (k := 9) rfl (by rfl) (by decide) rfl (fun ls hl => ?_)
                refine lv_goto (tgt := 70) hx hb dX6_parts_168 (by decide) ?_
                obtain rfl := o_ret hf
                exact ih70 _ _ (lpK_r h70z) _ _ _ hP hD hS (lv_sub hl [4, 5, 6, 7, 8, 9, 1, 0] rfl) K70_0
        obtain ⟨e70, h70q, hf⟩ := o_bs hf
        obtain ⟨n70v, h70q⟩ := lpF_ex h70q
        refine L70 n70v _ e70 h70q _ _ _ hP hD hS (lv_sub hl [3, 4, 5, 6, 7, 2, 1, 0] rfl) ?_
        intro H locs ls hP hD hS hl
        refine lv_aload_n hx hb dX6_parts_171 rfl (lv_at hl 0 rfl) ?_
        refine va_get (ci := 6) (v := .ref (q 5)) (C := RX6) (T := TX6) (N := 26) hx hb hts inlX6 hown hE.1 hP 0 rfl rfl 5 (by decide) (hts _ wB88) (fun _ h9 => h9) rfl dX6_parts_172 ?_
        refine lv_bipush (v := 48) hx hb dX6_parts_175 (by decide) ?_
        refine lv_iload hx hb dX6_parts_177 (lv_at hl 4 rfl) ?_
        refine lv_iadd hx hb dX6_parts_179 ?_
        refine lv_iload hx hb dX6_parts_180 (lv_at hl 5 rfl) ?_
        obtain ⟨hg182, hf⟩ := gd_s hf
        refine va_iast (f := (gR e70 4)) hx hb hE.1 hP hD hS 5 0 rfl rfl hg182 dX6_parts_182 (fun H locs hP hD hS => ?_)
        have hP : va_P D vwCl (WM q cy (sR e70 4 (upd (gR e70 4) ((48 + s39.1).toNatClampNeg) ((((gR s39.2 4) (((12 * a1) + s39.1).toNatClampNeg)) * e4) &&& 1073741823))) ++ rest) H := hP
        have hD : va_D A (WM q cy (sR e70 4 (upd (gR e70 4) ((48 + s39.1).toNatClampNeg) ((((gR s39.2 4) (((12 * a1) + s39.1).toNatClampNeg)) * e4) &&& 1073741823))) ++ rest) := hD
        refine lv_iinc (v := (s39.1 + 1)) (lv' := [(4, .int (s39.1 + 1)), (0, .ref (q 0)), (1, .int a1), (2, .int e4), (3, .int ((gR u 5) (a1.toNatClampNeg))), (5, .int ((((gR s39.2 4) (((12 * a1) + s39.1).toNatClampNeg)) * e4) &&& 1073741823))]) hx hb dX6_parts_183 hl (k := 4) rfl (by rfl) (by decide) rfl (fun ls hl => ?_)
        refine lv_goto (tgt := 39) hx hb dX6_parts_186 (by decide) ?_
        obtain rfl := o_ret hf
        exact ih39 _ _ (lpK_r h39z) _ _ _ hP hD hS (lv_sub hl [1, 2, 3, 4, 0] rfl) K39_0
  obtain ⟨e39, h39q, hf⟩ := o_bs hf
  obtain ⟨n39v, h39q⟩ := lpF_ex h39q
  refine L39 n39v _ e39 h39q _ _ _ hP hD hS (lv_sub hl [2, 3, 4, 1, 0] rfl) ?_
  intro H locs ls hP hD hS hl
  refine lv_iconst (v := 0) hx hb dX6_parts_189 (by decide) ?_
  refine lv_istore (lv' := [(4, .int 0), (0, .ref (q 0)), (1, .int a1), (3, .int ((gR u 5) (a1.toNatClampNeg)))]) hx hb dX6_parts_190 hl (by decide) rfl (fun ls hl => ?_)
  have L192 : ∀ (n192v : Nat) (s192 : Int32 × KS) (e192 : KS), lpO (mX6_parts_s192 a1 ((gR u 5) (a1.toNatClampNeg))) n192v s192 = some e192 → ∀ (H : Heap) (locs : List Loc) (ls : Array Slot), va_P D vwCl (WM q cy s192.2 ++ rest) H → va_D A (WM q cy s192.2 ++ rest) → va_S A s.heap H locs → lv_has ls 13 [(0, .ref (q 0)), (1, .int a1), (3, .int ((gR u 5) (a1.toNatClampNeg))), (4, .int s192.1)] → (∀ (H : Heap) (locs : List Loc) (ls : Array Slot), va_P D vwCl (WM q cy e192 ++ rest) H → va_D A (WM q cy e192 ++ rest) → va_S A s.heap H locs → lv_has ls 13 [(0, .ref (q 0)), (1, .int a1)] → W p l e rmX6_parts s m ([.ref (q 0), .int a1] : List Value).toArray below meth c H locs 0 0 (MQ below (kQv D A (WM q cy res ++ rest)) ([.ref (q 0), .int a1] : List Value).toArray s 0 0 A) (F0 m 226 ls [])) → W p l e rmX6_parts s m ([.ref (q 0), .int a1] : List Value).toArray below meth c H locs 0 0 (MQ below (kQv D A (WM q cy res ++ rest)) ([.ref (q 0), .int a1] : List Value).toArray s 0 0 A) (F0 m 192 ls []) := by
    intro n192v
    induction n192v with
    | zero => intro s192 e192 h; exact (lpO_z h).elim
    | succ n192v ih192 =>
      intro s192 e192 h192z H locs ls hP hD hS hl K192_0
      obtain ⟨x192, hf, h192z⟩ := lpO_s h192z
      unfold mX6_parts_s192 at hf
      refine lv_iload hx hb dX6_parts_192 (lv_at hl 3 rfl) ?_
      refine lv_iload_n hx hb dX6_parts_194 rfl (lv_at hl 2 rfl) ?_
      refine lv_icmp_ge (tgt := 226) hx hb dX6_parts_195 (by decide) (fun c195 => ?_) (fun c195 => ?_)
      · have hf := o_ip c195 hf
        obtain rfl := o_ret hf
        obtain rfl := lpK_l h192z
        exact K192_0 _ _ _ hP hD hS (lv_sub hl [0, 1] rfl)
      · have hf := o_in c195 hf
        refine lv_aload_n hx hb dX6_parts_198 rfl (lv_at hl 0 rfl) ?_
        refine va_get (ci := 6) (v := .ref (q 5)) (C := RX6) (T := TX6) (N := 26) hx hb hts inlX6 hown hE.1 hP 0 rfl rfl 5 (by decide) (hts _ wB88) (fun _ h9 => h9) rfl dX6_parts_199 ?_
        refine lv_bipush (v := 12) hx hb dX6_parts_202 (by decide) ?_
        refine lv_iload_n hx hb dX6_parts_204 rfl (lv_at hl 1 rfl) ?_
        refine lv_imul hx hb dX6_parts_205 ?_
        refine lv_iload hx hb dX6_parts_206 (lv_at hl 3 rfl) ?_
        refine lv_iadd hx hb dX6_parts_208 ?_
        refine lv_aload_n hx hb dX6_parts_209 rfl (lv_at hl 0 rfl) ?_
        refine va_get (ci := 6) (v := .ref (q 5)) (C := RX6) (T := TX6) (N := 26) hx hb hts inlX6 hown hE.1 hP 0 rfl rfl 5 (by decide) (hts _ wB88) (fun _ h9 => h9) rfl dX6_parts_210 ?_
        refine lv_bipush (v := 48) hx hb dX6_parts_213 (by decide) ?_
        refine lv_iload hx hb dX6_parts_215 (lv_at hl 3 rfl) ?_
        refine lv_iadd hx hb dX6_parts_217 ?_
        obtain ⟨hg218, hf⟩ := gd_s hf
        refine va_iald (f := (gR s192.2 4)) hx hb hE.1 hP 5 0 rfl rfl hg218 dX6_parts_218 ?_
        obtain ⟨hg219, hf⟩ := gd_s hf
        refine va_iast (f := (gR s192.2 4)) hx hb hE.1 hP hD hS 5 0 rfl rfl hg219 dX6_parts_219 (fun H locs hP hD hS => ?_)
        have hP : va_P D vwCl (WM q cy (sR s192.2 4 (upd (gR s192.2 4) (((12 * a1) + s192.1).toNatClampNeg) ((gR s192.2 4) ((48 + s192.1).toNatClampNeg)))) ++ rest) H := hP
        have hD : va_D A (WM q cy (sR s192.2 4 (upd (gR s192.2 4) (((12 * a1) + s192.1).toNatClampNeg) ((gR s192.2 4) ((48 + s192.1).toNatClampNeg)))) ++ rest) := hD
        refine lv_iinc (v := (s192.1 + 1)) (lv' := [(4, .int (s192.1 + 1)), (0, .ref (q 0)), (1, .int a1), (3, .int ((gR u 5) (a1.toNatClampNeg)))]) hx hb dX6_parts_220 hl (k := 3) rfl (by rfl) (by decide) rfl (fun ls hl => ?_)
        refine lv_goto (tgt := 192) hx hb dX6_parts_223 (by decide) ?_
        obtain rfl := o_ret hf
        exact ih192 _ _ (lpK_r h192z) _ _ _ hP hD hS (lv_sub hl [1, 2, 3, 0] rfl) K192_0
  obtain ⟨e192, h192q, hf⟩ := o_bs hf
  obtain ⟨n192v, h192q⟩ := lpF_ex h192q
  refine L192 n192v _ e192 h192q _ _ _ hP hD hS (lv_sub hl [1, 2, 3, 0] rfl) ?_
  intro H locs ls hP hD hS hl
  refine lv_aload_n hx hb dX6_parts_226 rfl (lv_at hl 0 rfl) ?_
  refine lv_iload_n hx hb dX6_parts_227 rfl (lv_at hl 1 rfl) ?_
  obtain ⟨r228, h228r, hf⟩ := o_bs hf
  refine k_gov (va_runV (As := [.int a1]) (rest := []) ⟨hx, hb, hml, hown, hts⟩ (zX6_trims l D cy sa q rest H.size e192 a1 r228 h228r) (cwV 1 hts (gB_V wB103 wB104 wB105 wB5 wB106) rfl rfl rfl (by decide +kernel) ⟨Nat.le_of_ble_eq_true rfl, Nat.le_of_ble_eq_true rfl⟩) ⟨kP.blind, k_recv hE hP (ci := 6) (q0 := 0) rfl rfl, k_pre hP hD hS hE hA⟩ rfl rfl hl.1 rfl (lv_room (Nat.le_of_ble_eq_true rfl)) dX6_parts_228 ⟨Nat.zero_le _, Nat.zero_le _⟩) hD hS hA (fun H locs hP hD hS => ?_)
  obtain rfl := o_ret hf
  exact k_vret hx hb hr hP hD hS (Nat.zero_le _) (Nat.zero_le _) hlocks dX6_parts_231
noncomputable def mX6_lowers_s16  (s16 : KS) : Option ((KS) ⊕ (KS)) :=
  (mX6_isEven s16 0).bind fun r18 =>
  if r18 = 0 then
  (some (.inl s16))
  else
  ((mX6_isEven s16 1).bind fun r26 =>
  if r26 = 0 then
  (some (.inl s16))
  else
  ((mX6_halves s16 0).bind fun r34 =>
  (mX6_halves r34 1).bind fun r39 =>
  some (.inr r39)))
noncomputable def mX6_lowers_s66  (s66 : KS) : Option ((KS) ⊕ (KS)) :=
  (mX6_isEven s66 2).bind fun r68 =>
  if r68 = 0 then
  (some (.inl s66))
  else
  ((mX6_halves s66 2).bind fun r76 =>
  some (.inr r76))
noncomputable def mX6_lowers_s82  (s82 : KS) : Option ((KS) ⊕ (KS)) :=
  (mX6_isEven s82 3).bind fun r84 =>
  if r84 = 0 then
  (some (.inl s82))
  else
  ((mX6_halves s82 3).bind fun r92 =>
  some (.inr r92))
noncomputable def mX6_lowers_s57  (s57 : KS) : Option ((KS) ⊕ (KS)) :=
  if ((gR s57 5) ((2 : Int32).toNatClampNeg)) ≤ 0 then
  (some (.inl s57))
  else
  ((lpF mX6_lowers_s66 s57).bind fun e66 =>
  (lpF mX6_lowers_s82 e66).bind fun e82 =>
  (mX6_against e82 2 3).bind fun r101 =>
  if r101 < 0 then
  ((mX6_lessens e82 3 (5 - 3)).bind fun r118 =>
  if ((gR r118 5) ((3 : Int32).toNatClampNeg)) = 0 then
  ((mX6_copies r118 3 2).bind fun r133 =>
  (mX6_sets r133 2 0).bind fun r139 =>
  some (.inr r139))
  else
  (some (.inr r118)))
  else
  ((mX6_lessens e82 2 (5 - 2)).bind fun r118 =>
  if ((gR r118 5) ((3 : Int32).toNatClampNeg)) = 0 then
  ((mX6_copies r118 3 2).bind fun r133 =>
  (mX6_sets r133 2 0).bind fun r139 =>
  some (.inr r139))
  else
  (some (.inr r118))))
noncomputable def mX6_lowers (u : KS) : Option (KS) :=
  if ((gR u 5) ((0 : Int32).toNatClampNeg)) = 0 then
  ((mX6_sets u 1 1).bind fun r12 =>
  some r12)
  else
  ((lpF mX6_lowers_s16 u).bind fun e16 =>
  (mX6_copies e16 2 0).bind fun r48 =>
  (mX6_copies r48 3 1).bind fun r54 =>
  (lpF mX6_lowers_s57 r54).bind fun e57 =>
  (mX6_parts e57 0).bind fun r147 =>
  (mX6_parts r147 1).bind fun r152 =>
  some r152)
abbrev rmX6_lowers : Room := { frames := 2, cells := 0, slots := 0, locals := 53 }
set_option maxRecDepth 100000 in
set_option maxHeartbeats 4000000 in
theorem zX6_lowers (l : Launch) (D : va_G) (cy : Nat → ClassId) (sa : Nat → Nat) (q : Nat → Nat) (rest : va_W) (sz : Nat) (u : KS) (res : KS) (hf : mX6_lowers u = some res) : kMv l yX6_lowers (wsK yX6_lowers cX6_lowers 2 none) rmX6_lowers D cy sa (WM q cy u ++ rest) sz [.ref (q 0)] (WM q cy res ++ rest) 0 0 := by
  refine kM_of (Qc := fun A => kQv D A (WM q cy res ++ rest)) (cc := cX6_lowers) (maxL := 2) (ret := none) (by decide) (Nat.le_of_ble_eq_true rfl) ?_
  intro p e s m below meth c A hx hb hml hr hts hown hlocks hin hA hP hD hS hE hsz ls hl
  have hown : s.vm.findClass RX6 = some m.cls := hown
  obtain ⟨H, hH0⟩ : ∃ H, H = s.heap := ⟨_, rfl⟩
  obtain ⟨locs, hlocs0⟩ : ∃ locs : List Loc, locs = [] := ⟨_, rfl⟩
  have hP : va_P D vwCl (WM q cy u ++ rest) H := by rw [hH0]; exact hP
  have hS : va_S A s.heap H locs := by rw [hH0, hlocs0]; exact hS
  have hl : lv_has ls 2 [(0, .ref (q 0))] := hl
  suffices hgoal : W p l e rmX6_lowers s m ([.ref (q 0)] : List Value).toArray below meth c H locs 0 0 (MQ below (kQv D A (WM q cy res ++ rest)) ([.ref (q 0)] : List Value).toArray s 0 0 A) (F0 m 0 ls []) by rw [hH0, hlocs0] at hgoal; exact hgoal
  clear hH0 hlocs0
  unfold mX6_lowers at hf
  refine lv_aload_n hx hb dX6_lowers_0 rfl (lv_at hl 0 rfl) ?_
  refine va_get (ci := 6) (v := .ref (q 6)) (C := RX6) (T := TX6) (N := 26) hx hb hts inlX6 hown hE.1 hP 0 rfl rfl 6 (by decide) (hts _ wB89) (fun _ h9 => h9) rfl dX6_lowers_1 ?_
  refine lv_iconst (v := 0) hx hb dX6_lowers_4 (by decide) ?_
  refine va_iald (f := (gR u 5)) hx hb hE.1 hP 6 0 rfl rfl (k_in (by decide)) dX6_lowers_5 ?_
  refine lv_if_ne (tgt := 16) hx hb dX6_lowers_6 (by decide) (fun c6 => ?_) (fun c6 => ?_)
  · have hf := o_in c6 hf
    have L16 : ∀ (n16v : Nat) (s16 : KS) (e16 : KS), lpO mX6_lowers_s16 n16v s16 = some e16 → ∀ (H : Heap) (locs : List Loc) (ls : Array Slot), va_P D vwCl (WM q cy s16 ++ rest) H → va_D A (WM q cy s16 ++ rest) → va_S A s.heap H locs → lv_has ls 2 [(0, .ref (q 0))] → (∀ (H : Heap) (locs : List Loc) (ls : Array Slot), va_P D vwCl (WM q cy e16 ++ rest) H → va_D A (WM q cy e16 ++ rest) → va_S A s.heap H locs → lv_has ls 2 [(0, .ref (q 0))] → W p l e rmX6_lowers s m ([.ref (q 0)] : List Value).toArray below meth c H locs 0 0 (MQ below (kQv D A (WM q cy res ++ rest)) ([.ref (q 0)] : List Value).toArray s 0 0 A) (F0 m 45 ls [])) → W p l e rmX6_lowers s m ([.ref (q 0)] : List Value).toArray below meth c H locs 0 0 (MQ below (kQv D A (WM q cy res ++ rest)) ([.ref (q 0)] : List Value).toArray s 0 0 A) (F0 m 16 ls []) := by
      intro n16v
      induction n16v with
      | zero => intro s16 e16 h; exact (lpO_z h).elim
      | succ n16v ih16 =>
        intro s16 e16 h16z H locs ls hP hD hS hl K16_0
        obtain ⟨x16, hf, h16z⟩ := lpO_s h16z
        unfold mX6_lowers_s16 at hf
        refine lv_aload_n hx hb dX6_lowers_16 rfl (lv_at hl 0 rfl) ?_
        refine lv_iconst (v := 0) hx hb dX6_lowers_17 (by decide) ?_
        obtain ⟨r18, h18r, hf⟩ := o_bs hf
        refine k_goi (va_runV (As := [.int 0]) (rest := []) ⟨hx, hb, hml, hown, hts⟩ (zX6_isEven l D cy sa q rest H.size s16 0 r18 h18r) (cwV 1 hts (gB_V wB589 wB590 wB591 wB5 wB592) rfl rfl rfl (by decide +kernel) ⟨Nat.le_of_ble_eq_true rfl, Nat.le_of_ble_eq_true rfl⟩) ⟨kP.blind, k_recv hE hP (ci := 6) (q0 := 0) rfl rfl, k_pre hP hD hS hE hA⟩ rfl rfl hl.1 rfl (lv_room (Nat.le_of_ble_eq_true rfl)) dX6_lowers_18 ⟨Nat.zero_le _, Nat.zero_le _⟩) hD hS hA (fun H locs hP hD hS => ?_)
        refine lv_if_eq (tgt := 45) hx hb dX6_lowers_21 (by decide) (fun c21 => ?_) (fun c21 => ?_)
        · have hf := o_ip c21 hf
          obtain rfl := o_ret hf
          obtain rfl := lpK_l h16z
          exact K16_0 _ _ _ hP hD hS (lv_sub hl [0] rfl)
        · have hf := o_in c21 hf
          refine lv_aload_n hx hb dX6_lowers_24 rfl (lv_at hl 0 rfl) ?_
          refine lv_iconst (v := 1) hx hb dX6_lowers_25 (by decide) ?_
          obtain ⟨r26, h26r, hf⟩ := o_bs hf
          refine k_goi (va_runV (As := [.int 1]) (rest := []) ⟨hx, hb, hml, hown, hts⟩ (zX6_isEven l D cy sa q rest H.size s16 1 r26 h26r) (cwV 1 hts (gB_V wB589 wB590 wB591 wB5 wB592) rfl rfl rfl (by decide +kernel) ⟨Nat.le_of_ble_eq_true rfl, Nat.le_of_ble_eq_true rfl⟩) ⟨kP.blind, k_recv hE hP (ci := 6) (q0 := 0) rfl rfl, k_pre hP hD hS hE hA⟩ rfl rfl hl.1 rfl (lv_room (Nat.le_of_ble_eq_true rfl)) dX6_lowers_26 ⟨Nat.zero_le _, Nat.zero_le _⟩) hD hS hA (fun H locs hP hD hS => ?_)
          refine lv_if_eq (tgt := 45) hx hb dX6_lowers_29 (by decide) (fun c29 => ?_) (fun c29 => ?_)
          · have hf := o_ip c29 hf
            obtain rfl := o_ret hf
            obtain rfl := lpK_l h16z
            exact K16_0 _ _ _ hP hD hS (lv_sub hl [0] rfl)
          · have hf := o_in c29 hf
            refine lv_aload_n hx hb dX6_lowers_32 rfl (lv_at hl 0 rfl) ?_
            refine lv_iconst (v := 0) hx hb dX6_lowers_33 (by decide) ?_
            obtain ⟨r34, h34r, hf⟩ := o_bs hf
            refine k_gov (va_runV (As := [.int 0]) (rest := []) ⟨hx, hb, hml, hown, hts⟩ (zX6_halves l D cy sa q rest H.size s16 0 r34 h34r) (cwV 1 hts (gB_V wB593 wB594 wB595 wB5 wB596) rfl rfl rfl (by decide +kernel) ⟨Nat.le_of_ble_eq_true rfl, Nat.le_of_ble_eq_true rfl⟩) ⟨kP.blind, k_recv hE hP (ci := 6) (q0 := 0) rfl rfl, k_pre hP hD hS hE hA⟩ rfl rfl hl.1 rfl (lv_room (Nat.le_of_ble_eq_true rfl)) dX6_lowers_34 ⟨Nat.zero_le _, Nat.zero_le _⟩) hD hS hA (fun H locs hP hD hS => ?_)
            refine lv_aload_n hx hb dX6_lowers_37 rfl (lv_at hl 0 rfl) ?_
            refine lv_iconst (v := 1) hx hb dX6_lowers_38 (by decide) ?_
            obtain ⟨r39, h39r, hf⟩ := o_bs hf
            refine k_gov (va_runV (As := [.int 1]) (rest := []) ⟨hx, hb, hml, hown, hts⟩ (zX6_halves l D cy sa q rest H.size r34 1 r39 h39r) (cwV 1 hts (gB_V wB593 wB594 wB595 wB5 wB596) rfl rfl rfl (by decide +kernel) ⟨Nat.le_of_ble_eq_true rfl, Nat.le_of_ble_eq_true rfl⟩) ⟨kP.blind, k_recv hE hP (ci := 6) (q0 := 0) rfl rfl, k_pre hP hD hS hE hA⟩ rfl rfl hl.1 rfl (lv_room (Nat.le_of_ble_eq_true rfl)) dX6_lowers_39 ⟨Nat.zero_le _, Nat.zero_le _⟩) hD hS hA (fun H locs hP hD hS => ?_)
            refine lv_goto (tgt := 16) hx hb dX6_lowers_42 (by decide) ?_
            obtain rfl := o_ret hf
            exact ih16 _ _ (lpK_r h16z) _ _ _ hP hD hS (lv_sub hl [0] rfl) K16_0
    obtain ⟨e16, h16q, hf⟩ := o_bs hf
    obtain ⟨n16v, h16q⟩ := lpF_ex h16q
    refine L16 n16v _ e16 h16q _ _ _ hP hD hS (lv_sub hl [0] rfl) ?_
    intro H locs ls hP hD hS hl
    refine lv_aload_n hx hb dX6_lowers_45 rfl (lv_at hl 0 rfl) ?_
    refine lv_iconst (v := 2) hx hb dX6_lowers_46 (by decide) ?_
    refine lv_iconst (v := 0) hx hb dX6_lowers_47 (by decide) ?_
    obtain ⟨r48, h48r, hf⟩ := o_bs hf
    refine k_gov (va_runV (As := [.int 2, .int 0]) (rest := []) ⟨hx, hb, hml, hown, hts⟩ (zX6_copies l D cy sa q rest H.size e16 2 0 r48 h48r) (cwV 2 hts (gB_V wB597 wB598 wB599 wB5 wB600) rfl rfl rfl (by decide +kernel) ⟨Nat.le_of_ble_eq_true rfl, Nat.le_of_ble_eq_true rfl⟩) ⟨kP.blind, k_recv hE hP (ci := 6) (q0 := 0) rfl rfl, k_pre hP hD hS hE hA⟩ rfl rfl hl.1 rfl (lv_room (Nat.le_of_ble_eq_true rfl)) dX6_lowers_48 ⟨Nat.zero_le _, Nat.zero_le _⟩) hD hS hA (fun H locs hP hD hS => ?_)
    refine lv_aload_n hx hb dX6_lowers_51 rfl (lv_at hl 0 rfl) ?_
    refine lv_iconst (v := 3) hx hb dX6_lowers_52 (by decide) ?_
    refine lv_iconst (v := 1) hx hb dX6_lowers_53 (by decide) ?_
    obtain ⟨r54, h54r, hf⟩ := o_bs hf
    refine k_gov (va_runV (As := [.int 3, .int 1]) (rest := []) ⟨hx, hb, hml, hown, hts⟩ (zX6_copies l D cy sa q rest H.size r48 3 1 r54 h54r) (cwV 2 hts (gB_V wB597 wB598 wB599 wB5 wB600) rfl rfl rfl (by decide +kernel) ⟨Nat.le_of_ble_eq_true rfl, Nat.le_of_ble_eq_true rfl⟩) ⟨kP.blind, k_recv hE hP (ci := 6) (q0 := 0) rfl rfl, k_pre hP hD hS hE hA⟩ rfl rfl hl.1 rfl (lv_room (Nat.le_of_ble_eq_true rfl)) dX6_lowers_54 ⟨Nat.zero_le _, Nat.zero_le _⟩) hD hS hA (fun H locs hP hD hS => ?_)
    have L57 : ∀ (n57v : Nat) (s57 : KS) (e57 : KS), lpO mX6_lowers_s57 n57v s57 = some e57 → ∀ (H : Heap) (locs : List Loc) (ls : Array Slot), va_P D vwCl (WM q cy s57 ++ rest) H → va_D A (WM q cy s57 ++ rest) → va_S A s.heap H locs → lv_has ls 2 [(0, .ref (q 0))] → (∀ (H : Heap) (locs : List Loc) (ls : Array Slot), va_P D vwCl (WM q cy e57 ++ rest) H → va_D A (WM q cy e57 ++ rest) → va_S A s.heap H locs → lv_has ls 2 [(0, .ref (q 0))] → W p l e rmX6_lowers s m ([.ref (q 0)] : List Value).toArray below meth c H locs 0 0 (MQ below (kQv D A (WM q cy res ++ rest)) ([.ref (q 0)] : List Value).toArray s 0 0 A) (F0 m 145 ls [])) → W p l e rmX6_lowers s m ([.ref (q 0)] : List Value).toArray below meth c H locs 0 0 (MQ below (kQv D A (WM q cy res ++ rest)) ([.ref (q 0)] : List Value).toArray s 0 0 A) (F0 m 57 ls []) := by
      intro n57v
      induction n57v with
      | zero => intro s57 e57 h; exact (lpO_z h).elim
      | succ n57v ih57 =>
        intro s57 e57 h57z H locs ls hP hD hS hl K57_0
        obtain ⟨x57, hf, h57z⟩ := lpO_s h57z
        unfold mX6_lowers_s57 at hf
        refine lv_aload_n hx hb dX6_lowers_57 rfl (lv_at hl 0 rfl) ?_
        refine va_get (ci := 6) (v := .ref (q 6)) (C := RX6) (T := TX6) (N := 26) hx hb hts inlX6 hown hE.1 hP 0 rfl rfl 6 (by decide) (hts _ wB89) (fun _ h9 => h9) rfl dX6_lowers_58 ?_
        refine lv_iconst (v := 2) hx hb dX6_lowers_61 (by decide) ?_
        refine va_iald (f := (gR s57 5)) hx hb hE.1 hP 6 0 rfl rfl (k_in (by decide)) dX6_lowers_62 ?_
        refine lv_if_le (tgt := 145) hx hb dX6_lowers_63 (by decide) (fun c63 => ?_) (fun c63 => ?_)
        · have hf := o_ip c63 hf
          obtain rfl := o_ret hf
          obtain rfl := lpK_l h57z
          exact K57_0 _ _ _ hP hD hS (lv_sub hl [0] rfl)
        · have hf := o_in c63 hf
          have L66 : ∀ (n66v : Nat) (s66 : KS) (e66 : KS), lpO mX6_lowers_s66 n66v s66 = some e66 → ∀ (H : Heap) (locs : List Loc) (ls : Array Slot), va_P D vwCl (WM q cy s66 ++ rest) H → va_D A (WM q cy s66 ++ rest) → va_S A s.heap H locs → lv_has ls 2 [(0, .ref (q 0))] → (∀ (H : Heap) (locs : List Loc) (ls : Array Slot), va_P D vwCl (WM q cy e66 ++ rest) H → va_D A (WM q cy e66 ++ rest) → va_S A s.heap H locs → lv_has ls 2 [(0, .ref (q 0))] → W p l e rmX6_lowers s m ([.ref (q 0)] : List Value).toArray below meth c H locs 0 0 (MQ below (kQv D A (WM q cy res ++ rest)) ([.ref (q 0)] : List Value).toArray s 0 0 A) (F0 m 82 ls [])) → W p l e rmX6_lowers s m ([.ref (q 0)] : List Value).toArray below meth c H locs 0 0 (MQ below (kQv D A (WM q cy res ++ rest)) ([.ref (q 0)] : List Value).toArray s 0 0 A) (F0 m 66 ls []) := by
            intro n66v
            induction n66v with
            | zero => intro s66 e66 h; exact (lpO_z h).elim
            | succ n66v ih66 =>
              intro s66 e66 h66z H locs ls hP hD hS hl K66_0
              obtain ⟨x66, hf, h66z⟩ := lpO_s h66z
              unfold mX6_lowers_s66 at hf
              refine lv_aload_n hx hb dX6_lowers_66 rfl (lv_at hl 0 rfl) ?_
              refine lv_iconst (v := 2) hx hb dX6_lowers_67 (by decide) ?_
              obtain ⟨r68, h68r, hf⟩ := o_bs hf
              refine k_goi (va_runV (As := [.int 2]) (rest := []) ⟨hx, hb, hml, hown, hts⟩ (zX6_isEven l D cy sa q rest H.size s66 2 r68 h68r) (cwV 1 hts (gB_V wB589 wB590 wB591 wB5 wB592) rfl rfl rfl (by decide +kernel) ⟨Nat.le_of_ble_eq_true rfl, Nat.le_of_ble_eq_true rfl⟩) ⟨kP.blind, k_recv hE hP (ci := 6) (q0 := 0) rfl rfl, k_pre hP hD hS hE hA⟩ rfl rfl hl.1 rfl (lv_room (Nat.le_of_ble_eq_true rfl)) dX6_lowers_68 ⟨Nat.zero_le _, Nat.zero_le _⟩) hD hS hA (fun H locs hP hD hS => ?_)
              refine lv_if_eq (tgt := 82) hx hb dX6_lowers_71 (by decide) (fun c71 => ?_) (fun c71 => ?_)
              · have hf := o_ip c71 hf
                obtain rfl := o_ret hf
                obtain rfl := lpK_l h66z
                exact K66_0 _ _ _ hP hD hS (lv_sub hl [0] rfl)
              · have hf := o_in c71 hf
                refine lv_aload_n hx hb dX6_lowers_74 rfl (lv_at hl 0 rfl) ?_
                refine lv_iconst (v := 2) hx hb dX6_lowers_75 (by decide) ?_
                obtain ⟨r76, h76r, hf⟩ := o_bs hf
                refine k_gov (va_runV (As := [.int 2]) (rest := []) ⟨hx, hb, hml, hown, hts⟩ (zX6_halves l D cy sa q rest H.size s66 2 r76 h76r) (cwV 1 hts (gB_V wB593 wB594 wB595 wB5 wB596) rfl rfl rfl (by decide +kernel) ⟨Nat.le_of_ble_eq_true rfl, Nat.le_of_ble_eq_true rfl⟩) ⟨kP.blind, k_recv hE hP (ci := 6) (q0 := 0) rfl rfl, k_pre hP hD hS hE hA⟩ rfl rfl hl.1 rfl (lv_room (Nat.le_of_ble_eq_true rfl)) dX6_lowers_76 ⟨Nat.zero_le _, Nat.zero_le _⟩) hD hS hA (fun H locs hP hD hS => ?_)
                refine lv_goto (tgt := 66) hx hb dX6_lowers_79 (by decide) ?_
                obtain rfl := o_ret hf
                exact ih66 _ _ (lpK_r h66z) _ _ _ hP hD hS (lv_sub hl [0] rfl) K66_0
          obtain ⟨e66, h66q, hf⟩ := o_bs hf
          obtain ⟨n66v, h66q⟩ := lpF_ex h66q
          refine L66 n66v _ e66 h66q _ _ _ hP hD hS (lv_sub hl [0] rfl) ?_
          intro H locs ls hP hD hS hl
          have L82 : ∀ (n82v : Nat) (s82 : KS) (e82 : KS), lpO mX6_lowers_s82 n82v s82 = some e82 → ∀ (H : Heap) (locs : List Loc) (ls : Array Slot), va_P D vwCl (WM q cy s82 ++ rest) H → va_D A (WM q cy s82 ++ rest) → va_S A s.heap H locs → lv_has ls 2 [(0, .ref (q 0))] → (∀ (H : Heap) (locs : List Loc) (ls : Array Slot), va_P D vwCl (WM q cy e82 ++ rest) H → va_D A (WM q cy e82 ++ rest) → va_S A s.heap H locs → lv_has ls 2 [(0, .ref (q 0))] → W p l e rmX6_lowers s m ([.ref (q 0)] : List Value).toArray below meth c H locs 0 0 (MQ below (kQv D A (WM q cy res ++ rest)) ([.ref (q 0)] : List Value).toArray s 0 0 A) (F0 m 98 ls [])) → W p l e rmX6_lowers s m ([.ref (q 0)] : List Value).toArray below meth c H locs 0 0 (MQ below (kQv D A (WM q cy res ++ rest)) ([.ref (q 0)] : List Value).toArray s 0 0 A) (F0 m 82 ls []) := by
            intro n82v
            induction n82v with
            | zero => intro s82 e82 h; exact (lpO_z h).elim
            | succ n82v ih82 =>
              intro s82 e82 h82z H locs ls hP hD hS hl K82_0
              obtain ⟨x82, hf, h82z⟩ := lpO_s h82z
              unfold mX6_lowers_s82 at hf
              refine lv_aload_n hx hb dX6_lowers_82 rfl (lv_at hl 0 rfl) ?_
              refine lv_iconst (v := 3) hx hb dX6_lowers_83 (by decide) ?_
              obtain ⟨r84, h84r, hf⟩ := o_bs hf
              refine k_goi (va_runV (As := [.int 3]) (rest := []) ⟨hx, hb, hml, hown, hts⟩ (zX6_isEven l D cy sa q rest H.size s82 3 r84 h84r) (cwV 1 hts (gB_V wB589 wB590 wB591 wB5 wB592) rfl rfl rfl (by decide +kernel) ⟨Nat.le_of_ble_eq_true rfl, Nat.le_of_ble_eq_true rfl⟩) ⟨kP.blind, k_recv hE hP (ci := 6) (q0 := 0) rfl rfl, k_pre hP hD hS hE hA⟩ rfl rfl hl.1 rfl (lv_room (Nat.le_of_ble_eq_true rfl)) dX6_lowers_84 ⟨Nat.zero_le _, Nat.zero_le _⟩) hD hS hA (fun H locs hP hD hS => ?_)
              refine lv_if_eq (tgt := 98) hx hb dX6_lowers_87 (by decide) (fun c87 => ?_) (fun c87 => ?_)
              · have hf := o_ip c87 hf
                obtain rfl := o_ret hf
                obtain rfl := lpK_l h82z
                exact K82_0 _ _ _ hP hD hS (lv_sub hl [0] rfl)
              · have hf := o_in c87 hf
                refine lv_aload_n hx hb dX6_lowers_90 rfl (lv_at hl 0 rfl) ?_
                refine lv_iconst (v := 3) hx hb dX6_lowers_91 (by decide) ?_
                obtain ⟨r92, h92r, hf⟩ := o_bs hf
                refine k_gov (va_runV (As := [.int 3]) (rest := []) ⟨hx, hb, hml, hown, hts⟩ (zX6_halves l D cy sa q rest H.size s82 3 r92 h92r) (cwV 1 hts (gB_V wB593 wB594 wB595 wB5 wB596) rfl rfl rfl (by decide +kernel) ⟨Nat.le_of_ble_eq_true rfl, Nat.le_of_ble_eq_true rfl⟩) ⟨kP.blind, k_recv hE hP (ci := 6) (q0 := 0) rfl rfl, k_pre hP hD hS hE hA⟩ rfl rfl hl.1 rfl (lv_room (Nat.le_of_ble_eq_true rfl)) dX6_lowers_92 ⟨Nat.zero_le _, Nat.zero_le _⟩) hD hS hA (fun H locs hP hD hS => ?_)
                refine lv_goto (tgt := 82) hx hb dX6_lowers_95 (by decide) ?_
                obtain rfl := o_ret hf
                exact ih82 _ _ (lpK_r h82z) _ _ _ hP hD hS (lv_sub hl [0] rfl) K82_0
          obtain ⟨e82, h82q, hf⟩ := o_bs hf
          obtain ⟨n82v, h82q⟩ := lpF_ex h82q
          refine L82 n82v _ e82 h82q _ _ _ hP hD hS (lv_sub hl [0] rfl) ?_
          intro H locs ls hP hD hS hl
          refine lv_aload_n hx hb dX6_lowers_98 rfl (lv_at hl 0 rfl) ?_
          refine lv_iconst (v := 2) hx hb dX6_lowers_99 (by decide) ?_
          refine lv_iconst (v := 3) hx hb dX6_lowers_100 (by decide) ?_
          obtain ⟨r101, h101r, hf⟩ := o_bs hf
          refine k_goi (va_runV (As := [.int 2, .int 3]) (rest := []) ⟨hx, hb, hml, hown, hts⟩ (zX6_against l D cy sa q rest H.size e82 2 3 r101 h101r) (cwV 2 hts (gB_V wB601 wB602 wB603 wB5 wB604) rfl rfl rfl (by decide +kernel) ⟨Nat.le_of_ble_eq_true rfl, Nat.le_of_ble_eq_true rfl⟩) ⟨kP.blind, k_recv hE hP (ci := 6) (q0 := 0) rfl rfl, k_pre hP hD hS hE hA⟩ rfl rfl hl.1 rfl (lv_room (Nat.le_of_ble_eq_true rfl)) dX6_lowers_101 ⟨Nat.zero_le _, Nat.zero_le _⟩) hD hS hA (fun H locs hP hD hS => ?_)
          refine lv_if_lt (tgt := 111) hx hb dX6_lowers_104 (by decide) (fun c104 => ?_) (fun c104 => ?_)
          · have hf := o_ip c104 hf
            refine lv_iconst (v := 3) hx hb dX6_lowers_111 (by decide) ?_
            refine lv_istore_n (lv' := [(1, .int 3), (0, .ref (q 0))]) hx hb dX6_lowers_112 rfl hl (by decide) rfl (fun ls hl => ?_)
            refine lv_aload_n hx hb dX6_lowers_113 rfl (lv_at hl 1 rfl) ?_
            refine lv_iload_n hx hb dX6_lowers_114 rfl (lv_at hl 0 rfl) ?_
            refine lv_iconst (v := 5) hx hb dX6_lowers_115 (by decide) ?_
            refine lv_iload_n hx hb dX6_lowers_116 rfl (lv_at hl 0 rfl) ?_
            refine lv_isub hx hb dX6_lowers_117 ?_
            obtain ⟨r118, h118r, hf⟩ := o_bs hf
            refine k_gov (va_runV (As := [.int 3, .int (5 - 3)]) (rest := []) ⟨hx, hb, hml, hown, hts⟩ (zX6_lessens l D cy sa q rest H.size e82 3 (5 - 3) r118 h118r) (cwV 2 hts (gB_V wB605 wB606 wB607 wB5 wB608) rfl rfl rfl (by decide +kernel) ⟨Nat.le_of_ble_eq_true rfl, Nat.le_of_ble_eq_true rfl⟩) ⟨kP.blind, k_recv hE hP (ci := 6) (q0 := 0) rfl rfl, k_pre hP hD hS hE hA⟩ rfl rfl hl.1 rfl (lv_room (Nat.le_of_ble_eq_true rfl)) dX6_lowers_118 ⟨Nat.zero_le _, Nat.zero_le _⟩) hD hS hA (fun H locs hP hD hS => ?_)
            refine lv_aload_n hx hb dX6_lowers_121 rfl (lv_at hl 1 rfl) ?_
            refine va_get (ci := 6) (v := .ref (q 6)) (C := RX6) (T := TX6) (N := 26) hx hb hts inlX6 hown hE.1 hP 0 rfl rfl 6 (by decide) (hts _ wB89) (fun _ h9 => h9) rfl dX6_lowers_122 ?_
            refine lv_iconst (v := 3) hx hb dX6_lowers_125 (by decide) ?_
            refine va_iald (f := (gR r118 5)) hx hb hE.1 hP 6 0 rfl rfl (k_in (by decide)) dX6_lowers_126 ?_
            refine lv_if_ne (tgt := 142) hx hb dX6_lowers_127 (by decide) (fun c127 => ?_) (fun c127 => ?_)
            · have hf := o_in c127 hf
              refine lv_goto (tgt := 57) hx hb dX6_lowers_142 (by decide) ?_
              obtain rfl := o_ret hf
              exact ih57 _ _ (lpK_r h57z) _ _ _ hP hD hS (lv_sub hl [1] rfl) K57_0
            · have hf := o_ip c127 hf
              refine lv_aload_n hx hb dX6_lowers_130 rfl (lv_at hl 1 rfl) ?_
              refine lv_iconst (v := 3) hx hb dX6_lowers_131 (by decide) ?_
              refine lv_iconst (v := 2) hx hb dX6_lowers_132 (by decide) ?_
              obtain ⟨r133, h133r, hf⟩ := o_bs hf
              refine k_gov (va_runV (As := [.int 3, .int 2]) (rest := []) ⟨hx, hb, hml, hown, hts⟩ (zX6_copies l D cy sa q rest H.size r118 3 2 r133 h133r) (cwV 2 hts (gB_V wB597 wB598 wB599 wB5 wB600) rfl rfl rfl (by decide +kernel) ⟨Nat.le_of_ble_eq_true rfl, Nat.le_of_ble_eq_true rfl⟩) ⟨kP.blind, k_recv hE hP (ci := 6) (q0 := 0) rfl rfl, k_pre hP hD hS hE hA⟩ rfl rfl hl.1 rfl (lv_room (Nat.le_of_ble_eq_true rfl)) dX6_lowers_133 ⟨Nat.zero_le _, Nat.zero_le _⟩) hD hS hA (fun H locs hP hD hS => ?_)
              refine lv_aload_n hx hb dX6_lowers_136 rfl (lv_at hl 1 rfl) ?_
              refine lv_iconst (v := 2) hx hb dX6_lowers_137 (by decide) ?_
              refine lv_lconst (v := 0) hx hb dX6_lowers_138 (by decide) ?_
              obtain ⟨r139, h139r, hf⟩ := o_bs hf
              refine k_gov (va_runV (As := [.int 2, .long 0]) (rest := []) ⟨hx, hb, hml, hown, hts⟩ (zX6_sets l D cy sa q rest H.size r133 2 0 r139 h139r) (cwV 2 hts (gB_V wB98 wB99 wB100 wB5 wB101) rfl rfl rfl (by decide +kernel) ⟨Nat.le_of_ble_eq_true rfl, Nat.le_of_ble_eq_true rfl⟩) ⟨kP.blind, k_recv hE hP (ci := 6) (q0 := 0) rfl rfl, k_pre hP hD hS hE hA⟩ rfl rfl hl.1 rfl (lv_room (Nat.le_of_ble_eq_true rfl)) dX6_lowers_139 ⟨Nat.zero_le _, Nat.zero_le _⟩) hD hS hA (fun H locs hP hD hS => ?_)
              refine lv_goto (tgt := 57) hx hb dX6_lowers_142 (by decide) ?_
              obtain rfl := o_ret hf
              exact ih57 _ _ (lpK_r h57z) _ _ _ hP hD hS (lv_sub hl [1] rfl) K57_0
          · have hf := o_in c104 hf
            refine lv_iconst (v := 2) hx hb dX6_lowers_107 (by decide) ?_
            refine lv_goto (tgt := 112) hx hb dX6_lowers_108 (by decide) ?_
            refine lv_istore_n (lv' := [(1, .int 2), (0, .ref (q 0))]) hx hb dX6_lowers_112 rfl hl (by decide) rfl (fun ls hl => ?_)
            refine lv_aload_n hx hb dX6_lowers_113 rfl (lv_at hl 1 rfl) ?_
            refine lv_iload_n hx hb dX6_lowers_114 rfl (lv_at hl 0 rfl) ?_
            refine lv_iconst (v := 5) hx hb dX6_lowers_115 (by decide) ?_
            refine lv_iload_n hx hb dX6_lowers_116 rfl (lv_at hl 0 rfl) ?_
            refine lv_isub hx hb dX6_lowers_117 ?_
            obtain ⟨r118, h118r, hf⟩ := o_bs hf
            refine k_gov (va_runV (As := [.int 2, .int (5 - 2)]) (rest := []) ⟨hx, hb, hml, hown, hts⟩ (zX6_lessens l D cy sa q rest H.size e82 2 (5 - 2) r118 h118r) (cwV 2 hts (gB_V wB605 wB606 wB607 wB5 wB608) rfl rfl rfl (by decide +kernel) ⟨Nat.le_of_ble_eq_true rfl, Nat.le_of_ble_eq_true rfl⟩) ⟨kP.blind, k_recv hE hP (ci := 6) (q0 := 0) rfl rfl, k_pre hP hD hS hE hA⟩ rfl rfl hl.1 rfl (lv_room (Nat.le_of_ble_eq_true rfl)) dX6_lowers_118 ⟨Nat.zero_le _, Nat.zero_le _⟩) hD hS hA (fun H locs hP hD hS => ?_)
            refine lv_aload_n hx hb dX6_lowers_121 rfl (lv_at hl 1 rfl) ?_
            refine va_get (ci := 6) (v := .ref (q 6)) (C := RX6) (T := TX6) (N := 26) hx hb hts inlX6 hown hE.1 hP 0 rfl rfl 6 (by decide) (hts _ wB89) (fun _ h9 => h9) rfl dX6_lowers_122 ?_
            refine lv_iconst (v := 3) hx hb dX6_lowers_125 (by decide) ?_
            refine va_iald (f := (gR r118 5)) hx hb hE.1 hP 6 0 rfl rfl (k_in (by decide)) dX6_lowers_126 ?_
            refine lv_if_ne (tgt := 142) hx hb dX6_lowers_127 (by decide) (fun c127 => ?_) (fun c127 => ?_)
            · have hf := o_in c127 hf
              refine lv_goto (tgt := 57) hx hb dX6_lowers_142 (by decide) ?_
              obtain rfl := o_ret hf
              exact ih57 _ _ (lpK_r h57z) _ _ _ hP hD hS (lv_sub hl [1] rfl) K57_0
            · have hf := o_ip c127 hf
              refine lv_aload_n hx hb dX6_lowers_130 rfl (lv_at hl 1 rfl) ?_
              refine lv_iconst (v := 3) hx hb dX6_lowers_131 (by decide) ?_
              refine lv_iconst (v := 2) hx hb dX6_lowers_132 (by decide) ?_
              obtain ⟨r133, h133r, hf⟩ := o_bs hf
              refine k_gov (va_runV (As := [.int 3, .int 2]) (rest := []) ⟨hx, hb, hml, hown, hts⟩ (zX6_copies l D cy sa q rest H.size r118 3 2 r133 h133r) (cwV 2 hts (gB_V wB597 wB598 wB599 wB5 wB600) rfl rfl rfl (by decide +kernel) ⟨Nat.le_of_ble_eq_true rfl, Nat.le_of_ble_eq_true rfl⟩) ⟨kP.blind, k_recv hE hP (ci := 6) (q0 := 0) rfl rfl, k_pre hP hD hS hE hA⟩ rfl rfl hl.1 rfl (lv_room (Nat.le_of_ble_eq_true rfl)) dX6_lowers_133 ⟨Nat.zero_le _, Nat.zero_le _⟩) hD hS hA (fun H locs hP hD hS => ?_)
              refine lv_aload_n hx hb dX6_lowers_136 rfl (lv_at hl 1 rfl) ?_
              refine lv_iconst (v := 2) hx hb dX6_lowers_137 (by decide) ?_
              refine lv_lconst (v := 0) hx hb dX6_lowers_138 (by decide) ?_
              obtain ⟨r139, h139r, hf⟩ := o_bs hf
              refine k_gov (va_runV (As := [.int 2, .long 0]) (rest := []) ⟨hx, hb, hml, hown, hts⟩ (zX6_sets l D cy sa q rest H.size r133 2 0 r139 h139r) (cwV 2 hts (gB_V wB98 wB99 wB100 wB5 wB101) rfl rfl rfl (by decide +kernel) ⟨Nat.le_of_ble_eq_true rfl, Nat.le_of_ble_eq_true rfl⟩) ⟨kP.blind, k_recv hE hP (ci := 6) (q0 := 0) rfl rfl, k_pre hP hD hS hE hA⟩ rfl rfl hl.1 rfl (lv_room (Nat.le_of_ble_eq_true rfl)) dX6_lowers_139 ⟨Nat.zero_le _, Nat.zero_le _⟩) hD hS hA (fun H locs hP hD hS => ?_)
              refine lv_goto (tgt := 57) hx hb dX6_lowers_142 (by decide) ?_
              obtain rfl := o_ret hf
              exact ih57 _ _ (lpK_r h57z) _ _ _ hP hD hS (lv_sub hl [1] rfl) K57_0
    obtain ⟨e57, h57q, hf⟩ := o_bs hf
    obtain ⟨n57v, h57q⟩ := lpF_ex h57q
    refine L57 n57v _ e57 h57q _ _ _ hP hD hS (lv_sub hl [0] rfl) ?_
    intro H locs ls hP hD hS hl
    refine lv_aload_n hx hb dX6_lowers_145 rfl (lv_at hl 0 rfl) ?_
    refine lv_iconst (v := 0) hx hb dX6_lowers_146 (by decide) ?_
    obtain ⟨r147, h147r, hf⟩ := o_bs hf
    refine k_gov (va_runV (As := [.int 0]) (rest := []) ⟨hx, hb, hml, hown, hts⟩ (zX6_parts l D cy sa q rest H.size e57 0 r147 h147r) (cwV 1 hts (gB_V wB610 wB611 wB612 wB5 wB613) rfl rfl rfl (by decide +kernel) ⟨Nat.le_of_ble_eq_true rfl, Nat.le_of_ble_eq_true rfl⟩) ⟨kP.blind, k_recv hE hP (ci := 6) (q0 := 0) rfl rfl, k_pre hP hD hS hE hA⟩ rfl rfl hl.1 rfl (lv_room (Nat.le_of_ble_eq_true rfl)) dX6_lowers_147 ⟨Nat.zero_le _, Nat.zero_le _⟩) hD hS hA (fun H locs hP hD hS => ?_)
    refine lv_aload_n hx hb dX6_lowers_150 rfl (lv_at hl 0 rfl) ?_
    refine lv_iconst (v := 1) hx hb dX6_lowers_151 (by decide) ?_
    obtain ⟨r152, h152r, hf⟩ := o_bs hf
    refine k_gov (va_runV (As := [.int 1]) (rest := []) ⟨hx, hb, hml, hown, hts⟩ (zX6_parts l D cy sa q rest H.size r147 1 r152 h152r) (cwV 1 hts (gB_V wB610 wB611 wB612 wB5 wB613) rfl rfl rfl (by decide +kernel) ⟨Nat.le_of_ble_eq_true rfl, Nat.le_of_ble_eq_true rfl⟩) ⟨kP.blind, k_recv hE hP (ci := 6) (q0 := 0) rfl rfl, k_pre hP hD hS hE hA⟩ rfl rfl hl.1 rfl (lv_room (Nat.le_of_ble_eq_true rfl)) dX6_lowers_152 ⟨Nat.zero_le _, Nat.zero_le _⟩) hD hS hA (fun H locs hP hD hS => ?_)
    obtain rfl := o_ret hf
    exact k_vret hx hb hr hP hD hS (Nat.zero_le _) (Nat.zero_le _) hlocks dX6_lowers_155
  · have hf := o_ip c6 hf
    refine lv_aload_n hx hb dX6_lowers_9 rfl (lv_at hl 0 rfl) ?_
    refine lv_iconst (v := 1) hx hb dX6_lowers_10 (by decide) ?_
    refine lv_lconst (v := 1) hx hb dX6_lowers_11 (by decide) ?_
    obtain ⟨r12, h12r, hf⟩ := o_bs hf
    refine k_gov (va_runV (As := [.int 1, .long 1]) (rest := []) ⟨hx, hb, hml, hown, hts⟩ (zX6_sets l D cy sa q rest H.size u 1 1 r12 h12r) (cwV 2 hts (gB_V wB98 wB99 wB100 wB5 wB101) rfl rfl rfl (by decide +kernel) ⟨Nat.le_of_ble_eq_true rfl, Nat.le_of_ble_eq_true rfl⟩) ⟨kP.blind, k_recv hE hP (ci := 6) (q0 := 0) rfl rfl, k_pre hP hD hS hE hA⟩ rfl rfl hl.1 rfl (lv_room (Nat.le_of_ble_eq_true rfl)) dX6_lowers_12 ⟨Nat.zero_le _, Nat.zero_le _⟩) hD hS hA (fun H locs hP hD hS => ?_)
    obtain rfl := o_ret hf
    exact k_vret hx hb hr hP hD hS (Nat.zero_le _) (Nat.zero_le _) hlocks dX6_lowers_15
noncomputable def mX6_gone_s73 (c1 : Int32) (c2 : Int32) (c3 : Int32) (c4 : Int64) (c6 : Int32) (s73 : Int32 × KS) : Option ((KS) ⊕ (Int32 × KS)) :=
  if c3 ≤ s73.1 then
  (some (.inl s73.2))
  else
  (if c6 ≤ s73.1 then
  ((mX6_times s73.2 6 (20 - c2)).bind fun r97 =>
  some (.inr ((s73.1 + 1), r97)))
  else
  ((mX6_times s73.2 6 c2).bind fun r97 =>
  some (.inr ((s73.1 + 1), r97))))
noncomputable def mX6_gone_s48 (c1 : Int32) (c2 : Int32) (c3 : Int32) (s48 : Int64 × Int32 × KS) : Option ((KS) ⊕ (Int64 × Int32 × KS)) :=
  if (4 - c1) ≤ s48.2.1 then
  (some (.inl s48.2.2))
  else
  (if c3 < s48.2.1 then
  (some (.inl s48.2.2))
  else
  ((mX6_sets s48.2.2 6 s48.1).bind fun r67 =>
  (lpF (mX6_gone_s73 c1 c2 c3 s48.1 s48.2.1) (0, r67)).bind fun e73 =>
  (mX6_adds e73 5 6).bind fun r110 =>
  gd (¬ ((s48.2.1 + 1).toInt64) = (0 : Int64)) (some (.inr (((s48.1 * ((c3 - s48.2.1).toInt64)) / ((s48.2.1 + 1).toInt64)), (s48.2.1 + 1), r110)))))
noncomputable def mX6_gone_s144 (c3 : Int32) (s144 : Int32 × KS) : Option ((KS) ⊕ (Int32 × KS)) :=
  if c3 ≤ s144.1 then
  (some (.inl s144.2))
  else
  ((mX6_times s144.2 1 20).bind fun r154 =>
  some (.inr ((s144.1 + 1), r154)))
noncomputable def mX6_gone (u : KS) (a1 : Int32) (a2 : Int32) (a3 : Int32) : Option (Int32 × KS) :=
  (mX6_isDeep a1).bind fun r1 =>
  if r1 = 0 then
  ((mX6_bad u).bind fun r32 =>
  some (r32.1, r32.2))
  else
  ((mX6_in (a2.toInt64) 0 9).bind fun r13 =>
  if r13 = 0 then
  ((mX6_bad u).bind fun r32 =>
  some (r32.1, r32.2))
  else
  ((mX6_in (a3.toInt64) 0 20).bind fun r25 =>
  if r25 = 0 then
  ((mX6_bad u).bind fun r32 =>
  some (r32.1, r32.2))
  else
  ((mX6_sets u 5 0).bind fun r39 =>
  (lpF (mX6_gone_s48 a1 a2 a3) (1, 0, r39)).bind fun e48 =>
  (mX6_sets e48 1 1).bind fun r138 =>
  (lpF (mX6_gone_s144 a3) (0, r138)).bind fun e144 =>
  (mX6_copies e144 0 1).bind fun r166 =>
  (mX6_lessens r166 0 5).bind fun r172 =>
  (mX6_lowers r172).bind fun r176 =>
  some (1, (sI r176 0 0)))))
abbrev rmX6_gone : Room := { frames := 3, cells := 0, slots := 0, locals := 74 }
set_option maxRecDepth 100000 in
set_option maxHeartbeats 4000000 in
theorem zX6_gone (l : Launch) (D : va_G) (cy : Nat → ClassId) (sa : Nat → Nat) (q : Nat → Nat) (rest : va_W) (sz : Nat) (u : KS) (a1 : Int32) (a2 : Int32) (a3 : Int32) (res : Int32 × KS) (hf : mX6_gone u a1 a2 a3 = some res) : kMi l yX6_gone (wsK yX6_gone cX6_gone 8 (some .int)) rmX6_gone D cy sa (WM q cy u ++ rest) sz [.ref (q 0), .int a1, .int a2, .int a3] res.1 (WM q cy res.2 ++ rest) 0 0 := by
  refine kM_of (Qc := fun A => kQi D A res.1 (WM q cy res.2 ++ rest)) (cc := cX6_gone) (maxL := 8) (ret := (some .int)) (by decide) (Nat.le_of_ble_eq_true rfl) ?_
  intro p e s m below meth c A hx hb hml hr hts hown hlocks hin hA hP hD hS hE hsz ls hl
  have hown : s.vm.findClass RX6 = some m.cls := hown
  obtain ⟨H, hH0⟩ : ∃ H, H = s.heap := ⟨_, rfl⟩
  obtain ⟨locs, hlocs0⟩ : ∃ locs : List Loc, locs = [] := ⟨_, rfl⟩
  have hP : va_P D vwCl (WM q cy u ++ rest) H := by rw [hH0]; exact hP
  have hS : va_S A s.heap H locs := by rw [hH0, hlocs0]; exact hS
  have hl : lv_has ls 8 [(0, .ref (q 0)), (1, .int a1), (2, .int a2), (3, .int a3)] := hl
  suffices hgoal : W p l e rmX6_gone s m ([.ref (q 0), .int a1, .int a2, .int a3] : List Value).toArray below meth c H locs 0 0 (MQ below (kQi D A res.1 (WM q cy res.2 ++ rest)) ([.ref (q 0), .int a1, .int a2, .int a3] : List Value).toArray s 0 0 A) (F0 m 0 ls []) by rw [hH0, hlocs0] at hgoal; exact hgoal
  clear hH0 hlocs0
  unfold mX6_gone at hf
  refine lv_iload_n hx hb dX6_gone_0 rfl (lv_at hl 1 rfl) ?_
  obtain ⟨r1, h1r, hf⟩ := o_bs hf
  refine k_goi (va_runS (As := [.int a1]) (rest := []) ⟨hx, hb, hml, hown, hts⟩ (zX6_isDeep l D cy sa (WM q cy u ++ rest) H.size a1  r1  h1r) (va_cwS 1 hts (gB_S wB722 wB723 wB5 wB724) rfl rfl rfl (by decide +kernel) ⟨Nat.le_of_ble_eq_true rfl, Nat.le_of_ble_eq_true rfl⟩) ⟨kP.blind, k_pre hP hD hS hE hA⟩ rfl rfl hl.1 rfl (lv_room (Nat.le_of_ble_eq_true rfl)) dX6_gone_1 ⟨Nat.zero_le _, Nat.zero_le _⟩) hD hS hA (fun H locs hP hD hS => ?_)
  refine lv_if_eq (tgt := 31) hx hb dX6_gone_4 (by decide) (fun c4 => ?_) (fun c4 => ?_)
  · have hf := o_ip c4 hf
    refine lv_aload_n hx hb dX6_gone_31 rfl (lv_at hl 0 rfl) ?_
    obtain ⟨r32, h32r, hf⟩ := o_bs hf
    refine k_goi (va_runV (As := []) (rest := []) ⟨hx, hb, hml, hown, hts⟩ (zX6_bad l D cy sa q rest H.size u  r32 h32r) (cwV 0 hts (gB_V wB144 wB145 wB146 wB5 wB147) rfl rfl rfl (by decide +kernel) ⟨Nat.le_of_ble_eq_true rfl, Nat.le_of_ble_eq_true rfl⟩) ⟨kP.blind, k_recv hE hP (ci := 6) (q0 := 0) rfl rfl, k_pre hP hD hS hE hA⟩ rfl rfl hl.1 rfl (lv_room (Nat.le_of_ble_eq_true rfl)) dX6_gone_32 ⟨Nat.zero_le _, Nat.zero_le _⟩) hD hS hA (fun H locs hP hD hS => ?_)
    obtain rfl := o_ret hf
    exact k_iret hx hb hr hP hD hS (Nat.zero_le _) (Nat.zero_le _) hlocks dX6_gone_35
  · have hf := o_in c4 hf
    refine lv_iload_n hx hb dX6_gone_7 rfl (lv_at hl 2 rfl) ?_
    refine lv_i2l (v := (a2.toInt64)) hx hb dX6_gone_8 rfl ?_
    refine lv_lconst (v := 0) hx hb dX6_gone_9 (by decide) ?_
    refine lv_ldc2 (v := 9) hx hb hown (hts _ wB292) dX6_gone_10 ?_
    obtain ⟨r13, h13r, hf⟩ := o_bs hf
    refine k_goi (va_runS (As := [.long (a2.toInt64), .long 0, .long 9]) (rest := []) ⟨hx, hb, hml, hown, hts⟩ (zX6_in l D cy sa (WM q cy u ++ rest) H.size (a2.toInt64) 0 9  r13  h13r) (va_cwS 3 hts (gB_S wB141 wB142 wB5 wB143) rfl rfl rfl (by decide +kernel) ⟨Nat.le_of_ble_eq_true rfl, Nat.le_of_ble_eq_true rfl⟩) ⟨kP.blind, k_pre hP hD hS hE hA⟩ rfl rfl hl.1 rfl (lv_room (Nat.le_of_ble_eq_true rfl)) dX6_gone_13 ⟨Nat.zero_le _, Nat.zero_le _⟩) hD hS hA (fun H locs hP hD hS => ?_)
    refine lv_if_eq (tgt := 31) hx hb dX6_gone_16 (by decide) (fun c16 => ?_) (fun c16 => ?_)
    · have hf := o_ip c16 hf
      refine lv_aload_n hx hb dX6_gone_31 rfl (lv_at hl 0 rfl) ?_
      obtain ⟨r32, h32r, hf⟩ := o_bs hf
      refine k_goi (va_runV (As := []) (rest := []) ⟨hx, hb, hml, hown, hts⟩ (zX6_bad l D cy sa q rest H.size u  r32 h32r) (cwV 0 hts (gB_V wB144 wB145 wB146 wB5 wB147) rfl rfl rfl (by decide +kernel) ⟨Nat.le_of_ble_eq_true rfl, Nat.le_of_ble_eq_true rfl⟩) ⟨kP.blind, k_recv hE hP (ci := 6) (q0 := 0) rfl rfl, k_pre hP hD hS hE hA⟩ rfl rfl hl.1 rfl (lv_room (Nat.le_of_ble_eq_true rfl)) dX6_gone_32 ⟨Nat.zero_le _, Nat.zero_le _⟩) hD hS hA (fun H locs hP hD hS => ?_)
      obtain rfl := o_ret hf
      exact k_iret hx hb hr hP hD hS (Nat.zero_le _) (Nat.zero_le _) hlocks dX6_gone_35
    · have hf := o_in c16 hf
      refine lv_iload_n hx hb dX6_gone_19 rfl (lv_at hl 3 rfl) ?_
      refine lv_i2l (v := (a3.toInt64)) hx hb dX6_gone_20 rfl ?_
      refine lv_lconst (v := 0) hx hb dX6_gone_21 (by decide) ?_
      refine lv_ldc2 (v := 20) hx hb hown (hts _ wB721) dX6_gone_22 ?_
      obtain ⟨r25, h25r, hf⟩ := o_bs hf
      refine k_goi (va_runS (As := [.long (a3.toInt64), .long 0, .long 20]) (rest := []) ⟨hx, hb, hml, hown, hts⟩ (zX6_in l D cy sa (WM q cy u ++ rest) H.size (a3.toInt64) 0 20  r25  h25r) (va_cwS 3 hts (gB_S wB141 wB142 wB5 wB143) rfl rfl rfl (by decide +kernel) ⟨Nat.le_of_ble_eq_true rfl, Nat.le_of_ble_eq_true rfl⟩) ⟨kP.blind, k_pre hP hD hS hE hA⟩ rfl rfl hl.1 rfl (lv_room (Nat.le_of_ble_eq_true rfl)) dX6_gone_25 ⟨Nat.zero_le _, Nat.zero_le _⟩) hD hS hA (fun H locs hP hD hS => ?_)
      refine lv_if_ne (tgt := 36) hx hb dX6_gone_28 (by decide) (fun c28 => ?_) (fun c28 => ?_)
      · have hf := o_in c28 hf
        refine lv_aload_n hx hb dX6_gone_36 rfl (lv_at hl 0 rfl) ?_
        refine lv_iconst (v := 5) hx hb dX6_gone_37 (by decide) ?_
        refine lv_lconst (v := 0) hx hb dX6_gone_38 (by decide) ?_
        obtain ⟨r39, h39r, hf⟩ := o_bs hf
        refine k_gov (va_runV (As := [.int 5, .long 0]) (rest := []) ⟨hx, hb, hml, hown, hts⟩ (zX6_sets l D cy sa q rest H.size u 5 0 r39 h39r) (cwV 2 hts (gB_V wB98 wB99 wB100 wB5 wB101) rfl rfl rfl (by decide +kernel) ⟨Nat.le_of_ble_eq_true rfl, Nat.le_of_ble_eq_true rfl⟩) ⟨kP.blind, k_recv hE hP (ci := 6) (q0 := 0) rfl rfl, k_pre hP hD hS hE hA⟩ rfl rfl hl.1 rfl (lv_room (Nat.le_of_ble_eq_true rfl)) dX6_gone_39 ⟨Nat.zero_le _, Nat.zero_le _⟩) hD hS hA (fun H locs hP hD hS => ?_)
        refine lv_lconst (v := 1) hx hb dX6_gone_42 (by decide) ?_
        refine lv_lstore (lv' := [(4, .long 1), (0, .ref (q 0)), (1, .int a1), (2, .int a2), (3, .int a3)]) hx hb dX6_gone_43 hl (by decide) rfl (fun ls hl => ?_)
        refine lv_iconst (v := 0) hx hb dX6_gone_45 (by decide) ?_
        refine lv_istore (lv' := [(6, .int 0), (4, .long 1), (0, .ref (q 0)), (1, .int a1), (2, .int a2), (3, .int a3)]) hx hb dX6_gone_46 hl (by decide) rfl (fun ls hl => ?_)
        have L48 : ∀ (n48v : Nat) (s48 : Int64 × Int32 × KS) (e48 : KS), lpO (mX6_gone_s48 a1 a2 a3) n48v s48 = some e48 → ∀ (H : Heap) (locs : List Loc) (ls : Array Slot), va_P D vwCl (WM q cy s48.2.2 ++ rest) H → va_D A (WM q cy s48.2.2 ++ rest) → va_S A s.heap H locs → lv_has ls 8 [(0, .ref (q 0)), (1, .int a1), (2, .int a2), (3, .int a3), (4, .long s48.1), (6, .int s48.2.1)] → (∀ (H : Heap) (locs : List Loc) (ls : Array Slot), va_P D vwCl (WM q cy e48 ++ rest) H → va_D A (WM q cy e48 ++ rest) → va_S A s.heap H locs → lv_has ls 8 [(0, .ref (q 0)), (3, .int a3)] → W p l e rmX6_gone s m ([.ref (q 0), .int a1, .int a2, .int a3] : List Value).toArray below meth c H locs 0 0 (MQ below (kQi D A res.1 (WM q cy res.2 ++ rest)) ([.ref (q 0), .int a1, .int a2, .int a3] : List Value).toArray s 0 0 A) (F0 m 135 ls [])) → W p l e rmX6_gone s m ([.ref (q 0), .int a1, .int a2, .int a3] : List Value).toArray below meth c H locs 0 0 (MQ below (kQi D A res.1 (WM q cy res.2 ++ rest)) ([.ref (q 0), .int a1, .int a2, .int a3] : List Value).toArray s 0 0 A) (F0 m 48 ls []) := by
          intro n48v
          induction n48v with
          | zero => intro s48 e48 h; exact (lpO_z h).elim
          | succ n48v ih48 =>
            intro s48 e48 h48z H locs ls hP hD hS hl K48_0
            obtain ⟨x48, hf, h48z⟩ := lpO_s h48z
            unfold mX6_gone_s48 at hf
            refine lv_iload hx hb dX6_gone_48 (lv_at hl 5 rfl) ?_
            refine lv_iconst (v := 4) hx hb dX6_gone_50 (by decide) ?_
            refine lv_iload_n hx hb dX6_gone_51 rfl (lv_at hl 1 rfl) ?_
            refine lv_isub hx hb dX6_gone_52 ?_
            refine lv_icmp_ge (tgt := 135) hx hb dX6_gone_53 (by decide) (fun c53 => ?_) (fun c53 => ?_)
            · have hf := o_ip c53 hf
              obtain rfl := o_ret hf
              obtain rfl := lpK_l h48z
              exact K48_0 _ _ _ hP hD hS (lv_sub hl [0, 3] rfl)
            · have hf := o_in c53 hf
              refine lv_iload hx hb dX6_gone_56 (lv_at hl 5 rfl) ?_
              refine lv_iload_n hx hb dX6_gone_58 rfl (lv_at hl 3 rfl) ?_
              refine lv_icmp_gt (tgt := 135) hx hb dX6_gone_59 (by decide) (fun c59 => ?_) (fun c59 => ?_)
              · have hf := o_ip c59 hf
                obtain rfl := o_ret hf
                obtain rfl := lpK_l h48z
                exact K48_0 _ _ _ hP hD hS (lv_sub hl [0, 3] rfl)
              · have hf := o_in c59 hf
                refine lv_aload_n hx hb dX6_gone_62 rfl (lv_at hl 0 rfl) ?_
                refine lv_bipush (v := 6) hx hb dX6_gone_63 (by decide) ?_
                refine lv_lload hx hb dX6_gone_65 (lv_at hl 4 rfl) ?_
                obtain ⟨r67, h67r, hf⟩ := o_bs hf
                refine k_gov (va_runV (As := [.int 6, .long s48.1]) (rest := []) ⟨hx, hb, hml, hown, hts⟩ (zX6_sets l D cy sa q rest H.size s48.2.2 6 s48.1 r67 h67r) (cwV 2 hts (gB_V wB98 wB99 wB100 wB5 wB101) rfl rfl rfl (by decide +kernel) ⟨Nat.le_of_ble_eq_true rfl, Nat.le_of_ble_eq_true rfl⟩) ⟨kP.blind, k_recv hE hP (ci := 6) (q0 := 0) rfl rfl, k_pre hP hD hS hE hA⟩ rfl rfl hl.1 rfl (lv_room (Nat.le_of_ble_eq_true rfl)) dX6_gone_67 ⟨Nat.zero_le _, Nat.zero_le _⟩) hD hS hA (fun H locs hP hD hS => ?_)
                refine lv_iconst (v := 0) hx hb dX6_gone_70 (by decide) ?_
                refine lv_istore (lv' := [(7, .int 0), (0, .ref (q 0)), (1, .int a1), (2, .int a2), (3, .int a3), (4, .long s48.1), (6, .int s48.2.1)]) hx hb dX6_gone_71 hl (by decide) rfl (fun ls hl => ?_)
                have L73 : ∀ (n73v : Nat) (s73 : Int32 × KS) (e73 : KS), lpO (mX6_gone_s73 a1 a2 a3 s48.1 s48.2.1) n73v s73 = some e73 → ∀ (H : Heap) (locs : List Loc) (ls : Array Slot), va_P D vwCl (WM q cy s73.2 ++ rest) H → va_D A (WM q cy s73.2 ++ rest) → va_S A s.heap H locs → lv_has ls 8 [(0, .ref (q 0)), (1, .int a1), (2, .int a2), (3, .int a3), (4, .long s48.1), (6, .int s48.2.1), (7, .int s73.1)] → (∀ (H : Heap) (locs : List Loc) (ls : Array Slot), va_P D vwCl (WM q cy e73 ++ rest) H → va_D A (WM q cy e73 ++ rest) → va_S A s.heap H locs → lv_has ls 8 [(0, .ref (q 0)), (1, .int a1), (2, .int a2), (3, .int a3), (4, .long s48.1), (6, .int s48.2.1)] → W p l e rmX6_gone s m ([.ref (q 0), .int a1, .int a2, .int a3] : List Value).toArray below meth c H locs 0 0 (MQ below (kQi D A res.1 (WM q cy res.2 ++ rest)) ([.ref (q 0), .int a1, .int a2, .int a3] : List Value).toArray s 0 0 A) (F0 m 106 ls [])) → W p l e rmX6_gone s m ([.ref (q 0), .int a1, .int a2, .int a3] : List Value).toArray below meth c H locs 0 0 (MQ below (kQi D A res.1 (WM q cy res.2 ++ rest)) ([.ref (q 0), .int a1, .int a2, .int a3] : List Value).toArray s 0 0 A) (F0 m 73 ls []) := by
                  intro n73v
                  induction n73v with
                  | zero => intro s73 e73 h; exact (lpO_z h).elim
                  | succ n73v ih73 =>
                    intro s73 e73 h73z H locs ls hP hD hS hl K73_0
                    obtain ⟨x73, hf, h73z⟩ := lpO_s h73z
                    unfold mX6_gone_s73 at hf
                    refine lv_iload hx hb dX6_gone_73 (lv_at hl 6 rfl) ?_
                    refine lv_iload_n hx hb dX6_gone_75 rfl (lv_at hl 3 rfl) ?_
                    refine lv_icmp_ge (tgt := 106) hx hb dX6_gone_76 (by decide) (fun c76 => ?_) (fun c76 => ?_)
                    · have hf := o_ip c76 hf
                      obtain rfl := o_ret hf
                      obtain rfl := lpK_l h73z
                      exact K73_0 _ _ _ hP hD hS (lv_sub hl [0, 1, 2, 3, 4, 5] rfl)
                    · have hf := o_in c76 hf
                      refine lv_aload_n hx hb dX6_gone_79 rfl (lv_at hl 0 rfl) ?_
                      refine lv_bipush (v := 6) hx hb dX6_gone_80 (by decide) ?_
                      refine lv_iload hx hb dX6_gone_82 (lv_at hl 6 rfl) ?_
                      refine lv_iload hx hb dX6_gone_84 (lv_at hl 5 rfl) ?_
                      refine lv_icmp_ge (tgt := 93) hx hb dX6_gone_86 (by decide) (fun c86 => ?_) (fun c86 => ?_)
                      · have hf := o_ip c86 hf
                        refine lv_bipush (v := 20) hx hb dX6_gone_93 (by decide) ?_
                        refine lv_iload_n hx hb dX6_gone_95 rfl (lv_at hl 2 rfl) ?_
                        refine lv_isub hx hb dX6_gone_96 ?_
                        obtain ⟨r97, h97r, hf⟩ := o_bs hf
                        refine k_gov (va_runV (As := [.int 6, .int (20 - a2)]) (rest := []) ⟨hx, hb, hml, hown, hts⟩ (zX6_times l D cy sa q rest H.size s73.2 6 (20 - a2) r97 h97r) (cwV 2 hts (gB_V wB725 wB726 wB727 wB5 wB728) rfl rfl rfl (by decide +kernel) ⟨Nat.le_of_ble_eq_true rfl, Nat.le_of_ble_eq_true rfl⟩) ⟨kP.blind, k_recv hE hP (ci := 6) (q0 := 0) rfl rfl, k_pre hP hD hS hE hA⟩ rfl rfl hl.1 rfl (lv_room (Nat.le_of_ble_eq_true rfl)) dX6_gone_97 ⟨Nat.zero_le _, Nat.zero_le _⟩) hD hS hA (fun H locs hP hD hS => ?_)
                        refine lv_iinc (v := (s73.1 + 1)) (lv' := [(7, .int (s73.1 + 1)), (0, .ref (q 0)), (1, .int a1), (2, .int a2), (3, .int a3), (4, .long s48.1), (6, .int s48.2.1)]) hx hb dX6_gone_100 hl (k := 6) rfl (by rfl) (by decide) rfl (fun ls hl => ?_)
                        refine lv_goto (tgt := 73) hx hb dX6_gone_103 (by decide) ?_
                        obtain rfl := o_ret hf
                        exact ih73 _ _ (lpK_r h73z) _ _ _ hP hD hS (lv_sub hl [1, 2, 3, 4, 5, 6, 0] rfl) K73_0
                      · have hf := o_in c86 hf
                        refine lv_iload_n hx hb dX6_gone_89 rfl (lv_at hl 2 rfl) ?_
                        refine lv_goto (tgt := 97) hx hb dX6_gone_90 (by decide) ?_
                        obtain ⟨r97, h97r, hf⟩ := o_bs hf
                        refine k_gov (va_runV (As := [.int 6, .int a2]) (rest := []) ⟨hx, hb, hml, hown, hts⟩ (zX6_times l D cy sa q rest H.size s73.2 6 a2 r97 h97r) (cwV 2 hts (gB_V wB725 wB726 wB727 wB5 wB728) rfl rfl rfl (by decide +kernel) ⟨Nat.le_of_ble_eq_true rfl, Nat.le_of_ble_eq_true rfl⟩) ⟨kP.blind, k_recv hE hP (ci := 6) (q0 := 0) rfl rfl, k_pre hP hD hS hE hA⟩ rfl rfl hl.1 rfl (lv_room (Nat.le_of_ble_eq_true rfl)) dX6_gone_97 ⟨Nat.zero_le _, Nat.zero_le _⟩) hD hS hA (fun H locs hP hD hS => ?_)
                        refine lv_iinc (v := (s73.1 + 1)) (lv' := [(7, .int (s73.1 + 1)), (0, .ref (q 0)), (1, .int a1), (2, .int a2), (3, .int a3), (4, .long s48.1), (6, .int s48.2.1)]) hx hb dX6_gone_100 hl (k := 6) rfl (by rfl) (by decide) rfl (fun ls hl => ?_)
                        refine lv_goto (tgt := 73) hx hb dX6_gone_103 (by decide) ?_
                        obtain rfl := o_ret hf
                        exact ih73 _ _ (lpK_r h73z) _ _ _ hP hD hS (lv_sub hl [1, 2, 3, 4, 5, 6, 0] rfl) K73_0
                obtain ⟨e73, h73q, hf⟩ := o_bs hf
                obtain ⟨n73v, h73q⟩ := lpF_ex h73q
                refine L73 n73v _ e73 h73q _ _ _ hP hD hS (lv_sub hl [1, 2, 3, 4, 5, 6, 0] rfl) ?_
                intro H locs ls hP hD hS hl
                refine lv_aload_n hx hb dX6_gone_106 rfl (lv_at hl 0 rfl) ?_
                refine lv_iconst (v := 5) hx hb dX6_gone_107 (by decide) ?_
                refine lv_bipush (v := 6) hx hb dX6_gone_108 (by decide) ?_
                obtain ⟨r110, h110r, hf⟩ := o_bs hf
                refine k_gov (va_runV (As := [.int 5, .int 6]) (rest := []) ⟨hx, hb, hml, hown, hts⟩ (zX6_adds l D cy sa q rest H.size e73 5 6 r110 h110r) (cwV 2 hts (gB_V wB729 wB730 wB731 wB5 wB732) rfl rfl rfl (by decide +kernel) ⟨Nat.le_of_ble_eq_true rfl, Nat.le_of_ble_eq_true rfl⟩) ⟨kP.blind, k_recv hE hP (ci := 6) (q0 := 0) rfl rfl, k_pre hP hD hS hE hA⟩ rfl rfl hl.1 rfl (lv_room (Nat.le_of_ble_eq_true rfl)) dX6_gone_110 ⟨Nat.zero_le _, Nat.zero_le _⟩) hD hS hA (fun H locs hP hD hS => ?_)
                refine lv_lload hx hb dX6_gone_113 (lv_at hl 4 rfl) ?_
                refine lv_iload_n hx hb dX6_gone_115 rfl (lv_at hl 3 rfl) ?_
                refine lv_iload hx hb dX6_gone_116 (lv_at hl 5 rfl) ?_
                refine lv_isub hx hb dX6_gone_118 ?_
                refine lv_i2l (v := ((a3 - s48.2.1).toInt64)) hx hb dX6_gone_119 rfl ?_
                refine lv_lmul hx hb dX6_gone_120 ?_
                refine lv_iload hx hb dX6_gone_121 (lv_at hl 5 rfl) ?_
                refine lv_iconst (v := 1) hx hb dX6_gone_123 (by decide) ?_
                refine lv_iadd hx hb dX6_gone_124 ?_
                refine lv_i2l (v := ((s48.2.1 + 1).toInt64)) hx hb dX6_gone_125 rfl ?_
                obtain ⟨hg126, hf⟩ := gd_s hf
                refine lv_ldiv hx hb dX6_gone_126 hg126 ?_
                refine lv_lstore (lv' := [(4, .long ((s48.1 * ((a3 - s48.2.1).toInt64)) / ((s48.2.1 + 1).toInt64))), (0, .ref (q 0)), (1, .int a1), (2, .int a2), (3, .int a3), (6, .int s48.2.1)]) hx hb dX6_gone_127 hl (by decide) rfl (fun ls hl => ?_)
                refine lv_iinc (v := (s48.2.1 + 1)) (lv' := [(6, .int (s48.2.1 + 1)), (4, .long ((s48.1 * ((a3 - s48.2.1).toInt64)) / ((s48.2.1 + 1).toInt64))), (0, .ref (q 0)), (1, .int a1), (2, .int a2), (3, .int a3)]) hx hb dX6_gone_129 hl (k := 5) rfl (by rfl) (by decide) rfl (fun ls hl => ?_)
                refine lv_goto (tgt := 48) hx hb dX6_gone_132 (by decide) ?_
                obtain rfl := o_ret hf
                exact ih48 _ _ (lpK_r h48z) _ _ _ hP hD hS (lv_sub hl [2, 3, 4, 5, 1, 0] rfl) K48_0
        obtain ⟨e48, h48q, hf⟩ := o_bs hf
        obtain ⟨n48v, h48q⟩ := lpF_ex h48q
        refine L48 n48v _ e48 h48q _ _ _ hP hD hS (lv_sub hl [2, 3, 4, 5, 1, 0] rfl) ?_
        intro H locs ls hP hD hS hl
        refine lv_aload_n hx hb dX6_gone_135 rfl (lv_at hl 0 rfl) ?_
        refine lv_iconst (v := 1) hx hb dX6_gone_136 (by decide) ?_
        refine lv_lconst (v := 1) hx hb dX6_gone_137 (by decide) ?_
        obtain ⟨r138, h138r, hf⟩ := o_bs hf
        refine k_gov (va_runV (As := [.int 1, .long 1]) (rest := []) ⟨hx, hb, hml, hown, hts⟩ (zX6_sets l D cy sa q rest H.size e48 1 1 r138 h138r) (cwV 2 hts (gB_V wB98 wB99 wB100 wB5 wB101) rfl rfl rfl (by decide +kernel) ⟨Nat.le_of_ble_eq_true rfl, Nat.le_of_ble_eq_true rfl⟩) ⟨kP.blind, k_recv hE hP (ci := 6) (q0 := 0) rfl rfl, k_pre hP hD hS hE hA⟩ rfl rfl hl.1 rfl (lv_room (Nat.le_of_ble_eq_true rfl)) dX6_gone_138 ⟨Nat.zero_le _, Nat.zero_le _⟩) hD hS hA (fun H locs hP hD hS => ?_)
        refine lv_iconst (v := 0) hx hb dX6_gone_141 (by decide) ?_
        refine lv_istore (lv' := [(6, .int 0), (0, .ref (q 0)), (3, .int a3)]) hx hb dX6_gone_142 hl (by decide) rfl (fun ls hl => ?_)
        have L144 : ∀ (n144v : Nat) (s144 : Int32 × KS) (e144 : KS), lpO (mX6_gone_s144 a3) n144v s144 = some e144 → ∀ (H : Heap) (locs : List Loc) (ls : Array Slot), va_P D vwCl (WM q cy s144.2 ++ rest) H → va_D A (WM q cy s144.2 ++ rest) → va_S A s.heap H locs → lv_has ls 8 [(0, .ref (q 0)), (3, .int a3), (6, .int s144.1)] → (∀ (H : Heap) (locs : List Loc) (ls : Array Slot), va_P D vwCl (WM q cy e144 ++ rest) H → va_D A (WM q cy e144 ++ rest) → va_S A s.heap H locs → lv_has ls 8 [(0, .ref (q 0))] → W p l e rmX6_gone s m ([.ref (q 0), .int a1, .int a2, .int a3] : List Value).toArray below meth c H locs 0 0 (MQ below (kQi D A res.1 (WM q cy res.2 ++ rest)) ([.ref (q 0), .int a1, .int a2, .int a3] : List Value).toArray s 0 0 A) (F0 m 163 ls [])) → W p l e rmX6_gone s m ([.ref (q 0), .int a1, .int a2, .int a3] : List Value).toArray below meth c H locs 0 0 (MQ below (kQi D A res.1 (WM q cy res.2 ++ rest)) ([.ref (q 0), .int a1, .int a2, .int a3] : List Value).toArray s 0 0 A) (F0 m 144 ls []) := by
          intro n144v
          induction n144v with
          | zero => intro s144 e144 h; exact (lpO_z h).elim
          | succ n144v ih144 =>
            intro s144 e144 h144z H locs ls hP hD hS hl K144_0
            obtain ⟨x144, hf, h144z⟩ := lpO_s h144z
            unfold mX6_gone_s144 at hf
            refine lv_iload hx hb dX6_gone_144 (lv_at hl 2 rfl) ?_
            refine lv_iload_n hx hb dX6_gone_146 rfl (lv_at hl 1 rfl) ?_
            refine lv_icmp_ge (tgt := 163) hx hb dX6_gone_147 (by decide) (fun c147 => ?_) (fun c147 => ?_)
            · have hf := o_ip c147 hf
              obtain rfl := o_ret hf
              obtain rfl := lpK_l h144z
              exact K144_0 _ _ _ hP hD hS (lv_sub hl [0] rfl)
            · have hf := o_in c147 hf
              refine lv_aload_n hx hb dX6_gone_150 rfl (lv_at hl 0 rfl) ?_
              refine lv_iconst (v := 1) hx hb dX6_gone_151 (by decide) ?_
              refine lv_bipush (v := 20) hx hb dX6_gone_152 (by decide) ?_
              obtain ⟨r154, h154r, hf⟩ := o_bs hf
              refine k_gov (va_runV (As := [.int 1, .int 20]) (rest := []) ⟨hx, hb, hml, hown, hts⟩ (zX6_times l D cy sa q rest H.size s144.2 1 20 r154 h154r) (cwV 2 hts (gB_V wB725 wB726 wB727 wB5 wB728) rfl rfl rfl (by decide +kernel) ⟨Nat.le_of_ble_eq_true rfl, Nat.le_of_ble_eq_true rfl⟩) ⟨kP.blind, k_recv hE hP (ci := 6) (q0 := 0) rfl rfl, k_pre hP hD hS hE hA⟩ rfl rfl hl.1 rfl (lv_room (Nat.le_of_ble_eq_true rfl)) dX6_gone_154 ⟨Nat.zero_le _, Nat.zero_le _⟩) hD hS hA (fun H locs hP hD hS => ?_)
              refine lv_iinc (v := (s144.1 + 1)) (lv' := [(6, .int (s144.1 + 1)), (0, .ref (q 0)), (3, .int a3)]) hx hb dX6_gone_157 hl (k := 2) rfl (by rfl) (by decide) rfl (fun ls hl => ?_)
              refine lv_goto (tgt := 144) hx hb dX6_gone_160 (by decide) ?_
              obtain rfl := o_ret hf
              exact ih144 _ _ (lpK_r h144z) _ _ _ hP hD hS (lv_sub hl [1, 2, 0] rfl) K144_0
        obtain ⟨e144, h144q, hf⟩ := o_bs hf
        obtain ⟨n144v, h144q⟩ := lpF_ex h144q
        refine L144 n144v _ e144 h144q _ _ _ hP hD hS (lv_sub hl [1, 2, 0] rfl) ?_
        intro H locs ls hP hD hS hl
        refine lv_aload_n hx hb dX6_gone_163 rfl (lv_at hl 0 rfl) ?_
        refine lv_iconst (v := 0) hx hb dX6_gone_164 (by decide) ?_
        refine lv_iconst (v := 1) hx hb dX6_gone_165 (by decide) ?_
        obtain ⟨r166, h166r, hf⟩ := o_bs hf
        refine k_gov (va_runV (As := [.int 0, .int 1]) (rest := []) ⟨hx, hb, hml, hown, hts⟩ (zX6_copies l D cy sa q rest H.size e144 0 1 r166 h166r) (cwV 2 hts (gB_V wB597 wB598 wB599 wB5 wB600) rfl rfl rfl (by decide +kernel) ⟨Nat.le_of_ble_eq_true rfl, Nat.le_of_ble_eq_true rfl⟩) ⟨kP.blind, k_recv hE hP (ci := 6) (q0 := 0) rfl rfl, k_pre hP hD hS hE hA⟩ rfl rfl hl.1 rfl (lv_room (Nat.le_of_ble_eq_true rfl)) dX6_gone_166 ⟨Nat.zero_le _, Nat.zero_le _⟩) hD hS hA (fun H locs hP hD hS => ?_)
        refine lv_aload_n hx hb dX6_gone_169 rfl (lv_at hl 0 rfl) ?_
        refine lv_iconst (v := 0) hx hb dX6_gone_170 (by decide) ?_
        refine lv_iconst (v := 5) hx hb dX6_gone_171 (by decide) ?_
        obtain ⟨r172, h172r, hf⟩ := o_bs hf
        refine k_gov (va_runV (As := [.int 0, .int 5]) (rest := []) ⟨hx, hb, hml, hown, hts⟩ (zX6_lessens l D cy sa q rest H.size r166 0 5 r172 h172r) (cwV 2 hts (gB_V wB605 wB606 wB607 wB5 wB608) rfl rfl rfl (by decide +kernel) ⟨Nat.le_of_ble_eq_true rfl, Nat.le_of_ble_eq_true rfl⟩) ⟨kP.blind, k_recv hE hP (ci := 6) (q0 := 0) rfl rfl, k_pre hP hD hS hE hA⟩ rfl rfl hl.1 rfl (lv_room (Nat.le_of_ble_eq_true rfl)) dX6_gone_172 ⟨Nat.zero_le _, Nat.zero_le _⟩) hD hS hA (fun H locs hP hD hS => ?_)
        refine lv_aload_n hx hb dX6_gone_175 rfl (lv_at hl 0 rfl) ?_
        obtain ⟨r176, h176r, hf⟩ := o_bs hf
        refine k_gov (va_runV (As := []) (rest := []) ⟨hx, hb, hml, hown, hts⟩ (zX6_lowers l D cy sa q rest H.size r172  r176 h176r) (cwV 0 hts (gB_V wB585 wB586 wB587 wB5 wB588) rfl rfl rfl (by decide +kernel) ⟨Nat.le_of_ble_eq_true rfl, Nat.le_of_ble_eq_true rfl⟩) ⟨kP.blind, k_recv hE hP (ci := 6) (q0 := 0) rfl rfl, k_pre hP hD hS hE hA⟩ rfl rfl hl.1 rfl (lv_room (Nat.le_of_ble_eq_true rfl)) dX6_gone_176 ⟨Nat.zero_le _, Nat.zero_le _⟩) hD hS hA (fun H locs hP hD hS => ?_)
        refine lv_aload_n hx hb dX6_gone_179 rfl (lv_at hl 0 rfl) ?_
        refine lv_iconst (v := 0) hx hb dX6_gone_180 (by decide) ?_
        refine va_put (ci := 6) (v := .int 0) (ty := .boolean) (C := RX6) (T := TX6) (N := 26) hx hb hts inlX6 tyX6 tyX6_ok nmX6 hown hE.1 hP hD hS 0 rfl rfl 4 (by decide) (hts _ wB584) (fun _ h9 => h9) rfl (by decide +kernel) rfl rfl (Nat.le_of_ble_eq_true rfl) dX6_gone_181 (fun H locs hP hD hS => ?_)
        have hP : va_P D vwCl (WM q cy (sI r176 0 0) ++ rest) H := hP
        have hD : va_D A (WM q cy (sI r176 0 0) ++ rest) := hD
        refine lv_iconst (v := 1) hx hb dX6_gone_184 (by decide) ?_
        obtain rfl := o_ret hf
        exact k_iret hx hb hr hP hD hS (Nat.zero_le _) (Nat.zero_le _) hlocks dX6_gone_185
      · have hf := o_ip c28 hf
        refine lv_aload_n hx hb dX6_gone_31 rfl (lv_at hl 0 rfl) ?_
        obtain ⟨r32, h32r, hf⟩ := o_bs hf
        refine k_goi (va_runV (As := []) (rest := []) ⟨hx, hb, hml, hown, hts⟩ (zX6_bad l D cy sa q rest H.size u  r32 h32r) (cwV 0 hts (gB_V wB144 wB145 wB146 wB5 wB147) rfl rfl rfl (by decide +kernel) ⟨Nat.le_of_ble_eq_true rfl, Nat.le_of_ble_eq_true rfl⟩) ⟨kP.blind, k_recv hE hP (ci := 6) (q0 := 0) rfl rfl, k_pre hP hD hS hE hA⟩ rfl rfl hl.1 rfl (lv_room (Nat.le_of_ble_eq_true rfl)) dX6_gone_32 ⟨Nat.zero_le _, Nat.zero_le _⟩) hD hS hA (fun H locs hP hD hS => ?_)
        obtain rfl := o_ret hf
        exact k_iret hx hb hr hP hD hS (Nat.zero_le _) (Nat.zero_le _) hlocks dX6_gone_35
noncomputable def mX6_opens (u : KS) (a1 : Int32) : Option (KS) :=
  (mX6_in (a1.toInt64) 1 84).bind fun r26 =>
  if r26 = 0 then
  (if a1 ≤ 84 then
  (some (sI (sI (sI (sI u 6 (-1)) 7 (-1)) 8 (-1)) 9 (-1)))
  else
  (if 3 ≤ ((a1 - 85) / 441) then
  (if 5 ≤ ((a1 - 85) / 441) then
  (if 3 ≤ ((a1 - 85) / 441) then
  (if 5 ≤ ((a1 - 85) / 441) then
  (some (sI (sI (sI (sI u 6 2) 7 3) 8 (((a1 - 85) - (a1 - 85) / 441 * 441) / 21)) 9 ((a1 - 85) - (a1 - 85) / 21 * 21)))
  else
  (some (sI (sI (sI (sI u 6 2) 7 (((a1 - 85) / 441) - 1)) 8 (((a1 - 85) - (a1 - 85) / 441 * 441) / 21)) 9 ((a1 - 85) - (a1 - 85) / 21 * 21))))
  else
  (some (sI (sI (sI (sI u 6 2) 7 (((a1 - 85) / 441) + 1)) 8 (((a1 - 85) - (a1 - 85) / 441 * 441) / 21)) 9 ((a1 - 85) - (a1 - 85) / 21 * 21))))
  else
  (if 3 ≤ ((a1 - 85) / 441) then
  (if 5 ≤ ((a1 - 85) / 441) then
  (some (sI (sI (sI (sI u 6 1) 7 3) 8 (((a1 - 85) - (a1 - 85) / 441 * 441) / 21)) 9 ((a1 - 85) - (a1 - 85) / 21 * 21)))
  else
  (some (sI (sI (sI (sI u 6 1) 7 (((a1 - 85) / 441) - 1)) 8 (((a1 - 85) - (a1 - 85) / 441 * 441) / 21)) 9 ((a1 - 85) - (a1 - 85) / 21 * 21))))
  else
  (some (sI (sI (sI (sI u 6 1) 7 (((a1 - 85) / 441) + 1)) 8 (((a1 - 85) - (a1 - 85) / 441 * 441) / 21)) 9 ((a1 - 85) - (a1 - 85) / 21 * 21)))))
  else
  (if 3 ≤ ((a1 - 85) / 441) then
  (if 5 ≤ ((a1 - 85) / 441) then
  (some (sI (sI (sI (sI u 6 0) 7 3) 8 (((a1 - 85) - (a1 - 85) / 441 * 441) / 21)) 9 ((a1 - 85) - (a1 - 85) / 21 * 21)))
  else
  (some (sI (sI (sI (sI u 6 0) 7 (((a1 - 85) / 441) - 1)) 8 (((a1 - 85) - (a1 - 85) / 441 * 441) / 21)) 9 ((a1 - 85) - (a1 - 85) / 21 * 21))))
  else
  (some (sI (sI (sI (sI u 6 0) 7 (((a1 - 85) / 441) + 1)) 8 (((a1 - 85) - (a1 - 85) / 441 * 441) / 21)) 9 ((a1 - 85) - (a1 - 85) / 21 * 21))))))
  else
  (if a1 ≤ 84 then
  (some (sI (sI (sI (sI u 6 ((a1 - 1) / 21)) 7 (-1)) 8 ((a1 - 1) - (a1 - 1) / 21 * 21)) 9 (-1)))
  else
  (if 3 ≤ ((a1 - 85) / 441) then
  (if 5 ≤ ((a1 - 85) / 441) then
  (if 3 ≤ ((a1 - 85) / 441) then
  (if 5 ≤ ((a1 - 85) / 441) then
  (some (sI (sI (sI (sI u 6 2) 7 3) 8 (((a1 - 85) - (a1 - 85) / 441 * 441) / 21)) 9 ((a1 - 85) - (a1 - 85) / 21 * 21)))
  else
  (some (sI (sI (sI (sI u 6 2) 7 (((a1 - 85) / 441) - 1)) 8 (((a1 - 85) - (a1 - 85) / 441 * 441) / 21)) 9 ((a1 - 85) - (a1 - 85) / 21 * 21))))
  else
  (some (sI (sI (sI (sI u 6 2) 7 (((a1 - 85) / 441) + 1)) 8 (((a1 - 85) - (a1 - 85) / 441 * 441) / 21)) 9 ((a1 - 85) - (a1 - 85) / 21 * 21))))
  else
  (if 3 ≤ ((a1 - 85) / 441) then
  (if 5 ≤ ((a1 - 85) / 441) then
  (some (sI (sI (sI (sI u 6 1) 7 3) 8 (((a1 - 85) - (a1 - 85) / 441 * 441) / 21)) 9 ((a1 - 85) - (a1 - 85) / 21 * 21)))
  else
  (some (sI (sI (sI (sI u 6 1) 7 (((a1 - 85) / 441) - 1)) 8 (((a1 - 85) - (a1 - 85) / 441 * 441) / 21)) 9 ((a1 - 85) - (a1 - 85) / 21 * 21))))
  else
  (some (sI (sI (sI (sI u 6 1) 7 (((a1 - 85) / 441) + 1)) 8 (((a1 - 85) - (a1 - 85) / 441 * 441) / 21)) 9 ((a1 - 85) - (a1 - 85) / 21 * 21)))))
  else
  (if 3 ≤ ((a1 - 85) / 441) then
  (if 5 ≤ ((a1 - 85) / 441) then
  (some (sI (sI (sI (sI u 6 0) 7 3) 8 (((a1 - 85) - (a1 - 85) / 441 * 441) / 21)) 9 ((a1 - 85) - (a1 - 85) / 21 * 21)))
  else
  (some (sI (sI (sI (sI u 6 0) 7 (((a1 - 85) / 441) - 1)) 8 (((a1 - 85) - (a1 - 85) / 441 * 441) / 21)) 9 ((a1 - 85) - (a1 - 85) / 21 * 21))))
  else
  (some (sI (sI (sI (sI u 6 0) 7 (((a1 - 85) / 441) + 1)) 8 (((a1 - 85) - (a1 - 85) / 441 * 441) / 21)) 9 ((a1 - 85) - (a1 - 85) / 21 * 21))))))
abbrev rmX6_opens : Room := { frames := 1, cells := 0, slots := 0, locals := 25 }
set_option maxRecDepth 100000 in
set_option maxHeartbeats 4000000 in
theorem zX6_opens (l : Launch) (D : va_G) (cy : Nat → ClassId) (sa : Nat → Nat) (q : Nat → Nat) (rest : va_W) (sz : Nat) (u : KS) (a1 : Int32) (res : KS) (hf : mX6_opens u a1 = some res) : kMv l yX6_opens (wsK yX6_opens cX6_opens 3 none) rmX6_opens D cy sa (WM q cy u ++ rest) sz [.ref (q 0), .int a1] (WM q cy res ++ rest) 0 0 := by
  refine kM_of (Qc := fun A => kQv D A (WM q cy res ++ rest)) (cc := cX6_opens) (maxL := 3) (ret := none) (by decide) (Nat.le_of_ble_eq_true rfl) ?_
  intro p e s m below meth c A hx hb hml hr hts hown hlocks hin hA hP hD hS hE hsz ls hl
  have hown : s.vm.findClass RX6 = some m.cls := hown
  obtain ⟨H, hH0⟩ : ∃ H, H = s.heap := ⟨_, rfl⟩
  obtain ⟨locs, hlocs0⟩ : ∃ locs : List Loc, locs = [] := ⟨_, rfl⟩
  have hP : va_P D vwCl (WM q cy u ++ rest) H := by rw [hH0]; exact hP
  have hS : va_S A s.heap H locs := by rw [hH0, hlocs0]; exact hS
  have hl : lv_has ls 3 [(0, .ref (q 0)), (1, .int a1)] := hl
  suffices hgoal : W p l e rmX6_opens s m ([.ref (q 0), .int a1] : List Value).toArray below meth c H locs 0 0 (MQ below (kQv D A (WM q cy res ++ rest)) ([.ref (q 0), .int a1] : List Value).toArray s 0 0 A) (F0 m 0 ls []) by rw [hH0, hlocs0] at hgoal; exact hgoal
  clear hH0 hlocs0
  unfold mX6_opens at hf
  refine lv_aload_n hx hb dX6_opens_0 rfl (lv_at hl 0 rfl) ?_
  refine lv_iconst (v := (-1)) hx hb dX6_opens_1 (by decide) ?_
  refine va_put (ci := 6) (v := .int (-1)) (ty := .int) (C := RX6) (T := TX6) (N := 26) hx hb hts inlX6 tyX6 tyX6_ok nmX6 hown hE.1 hP hD hS 0 rfl rfl 16 (by decide) (hts _ wB558) (fun _ h9 => h9) rfl (by decide +kernel) rfl rfl (Nat.le_of_ble_eq_true rfl) dX6_opens_2 (fun H locs hP hD hS => ?_)
  have hP : va_P D vwCl (WM q cy (sI u 6 (-1)) ++ rest) H := hP
  have hD : va_D A (WM q cy (sI u 6 (-1)) ++ rest) := hD
  refine lv_aload_n hx hb dX6_opens_5 rfl (lv_at hl 0 rfl) ?_
  refine lv_iconst (v := (-1)) hx hb dX6_opens_6 (by decide) ?_
  refine va_put (ci := 6) (v := .int (-1)) (ty := .int) (C := RX6) (T := TX6) (N := 26) hx hb hts inlX6 tyX6 tyX6_ok nmX6 hown hE.1 hP hD hS 0 rfl rfl 17 (by decide) (hts _ wB560) (fun _ h9 => h9) rfl (by decide +kernel) rfl rfl (Nat.le_of_ble_eq_true rfl) dX6_opens_7 (fun H locs hP hD hS => ?_)
  have hQ : ∀ (xb : KS) (x0 : Int32) (xn : Int32), (WM q cy (sI xb 6 x0) ++ rest).set 0 (q 0, .inr (6, [.ref (q 1), .ref (q 2), .ref (q 3), .ref (q 4), .int (gI (sI xb 6 x0) 0), .ref (q 5), .ref (q 6), .int (gI (sI xb 6 x0) 1), .int (gI (sI xb 6 x0) 2), .int (gI (sI xb 6 x0) 3), .int (gI (sI xb 6 x0) 4), .ref (q 7), .ref (q 8), .ref (q 9), .int (gI (sI xb 6 x0) 5), .ref (q 10), .int (gI (sI xb 6 x0) 6), .int (gI (sI xb 6 x0) 7), .int (gI (sI xb 6 x0) 8), .int (gI (sI xb 6 x0) 9), .ref (q 11), .long (gL (sI xb 6 x0) 0), .ref (q 12), .ref (q 13), .ref (q 14), .int (gI (sI xb 6 x0) 10)].set 17 (.int xn))) = WM q cy (sI (sI xb 6 x0) 7 xn) ++ rest := fun _ _ _ => rfl
  have hP : va_P D vwCl (WM q cy (sI (sI u 6 (-1)) 7 (-1)) ++ rest) H := k_wP (hQ u (-1) (-1)) hP
  have hD : va_D A (WM q cy (sI (sI u 6 (-1)) 7 (-1)) ++ rest) := k_wD (hQ u (-1) (-1)) hD
  clear hQ
  refine lv_aload_n hx hb dX6_opens_10 rfl (lv_at hl 0 rfl) ?_
  refine lv_iconst (v := (-1)) hx hb dX6_opens_11 (by decide) ?_
  refine va_put (ci := 6) (v := .int (-1)) (ty := .int) (C := RX6) (T := TX6) (N := 26) hx hb hts inlX6 tyX6 tyX6_ok nmX6 hown hE.1 hP hD hS 0 rfl rfl 18 (by decide) (hts _ wB559) (fun _ h9 => h9) rfl (by decide +kernel) rfl rfl (Nat.le_of_ble_eq_true rfl) dX6_opens_12 (fun H locs hP hD hS => ?_)
  have hQ : ∀ (xb : KS) (x0 : Int32) (x1 : Int32) (xn : Int32), (WM q cy (sI (sI xb 6 x0) 7 x1) ++ rest).set 0 (q 0, .inr (6, [.ref (q 1), .ref (q 2), .ref (q 3), .ref (q 4), .int (gI (sI (sI xb 6 x0) 7 x1) 0), .ref (q 5), .ref (q 6), .int (gI (sI (sI xb 6 x0) 7 x1) 1), .int (gI (sI (sI xb 6 x0) 7 x1) 2), .int (gI (sI (sI xb 6 x0) 7 x1) 3), .int (gI (sI (sI xb 6 x0) 7 x1) 4), .ref (q 7), .ref (q 8), .ref (q 9), .int (gI (sI (sI xb 6 x0) 7 x1) 5), .ref (q 10), .int (gI (sI (sI xb 6 x0) 7 x1) 6), .int (gI (sI (sI xb 6 x0) 7 x1) 7), .int (gI (sI (sI xb 6 x0) 7 x1) 8), .int (gI (sI (sI xb 6 x0) 7 x1) 9), .ref (q 11), .long (gL (sI (sI xb 6 x0) 7 x1) 0), .ref (q 12), .ref (q 13), .ref (q 14), .int (gI (sI (sI xb 6 x0) 7 x1) 10)].set 18 (.int xn))) = WM q cy (sI (sI (sI xb 6 x0) 7 x1) 8 xn) ++ rest := fun _ _ _ _ => rfl
  have hP : va_P D vwCl (WM q cy (sI (sI (sI u 6 (-1)) 7 (-1)) 8 (-1)) ++ rest) H := k_wP (hQ u (-1) (-1) (-1)) hP
  have hD : va_D A (WM q cy (sI (sI (sI u 6 (-1)) 7 (-1)) 8 (-1)) ++ rest) := k_wD (hQ u (-1) (-1) (-1)) hD
  clear hQ
  refine lv_aload_n hx hb dX6_opens_15 rfl (lv_at hl 0 rfl) ?_
  refine lv_iconst (v := (-1)) hx hb dX6_opens_16 (by decide) ?_
  refine va_put (ci := 6) (v := .int (-1)) (ty := .int) (C := RX6) (T := TX6) (N := 26) hx hb hts inlX6 tyX6 tyX6_ok nmX6 hown hE.1 hP hD hS 0 rfl rfl 19 (by decide) (hts _ wB561) (fun _ h9 => h9) rfl (by decide +kernel) rfl rfl (Nat.le_of_ble_eq_true rfl) dX6_opens_17 (fun H locs hP hD hS => ?_)
  have hQ : ∀ (xb : KS) (x0 : Int32) (x1 : Int32) (x2 : Int32) (xn : Int32), (WM q cy (sI (sI (sI xb 6 x0) 7 x1) 8 x2) ++ rest).set 0 (q 0, .inr (6, [.ref (q 1), .ref (q 2), .ref (q 3), .ref (q 4), .int (gI (sI (sI (sI xb 6 x0) 7 x1) 8 x2) 0), .ref (q 5), .ref (q 6), .int (gI (sI (sI (sI xb 6 x0) 7 x1) 8 x2) 1), .int (gI (sI (sI (sI xb 6 x0) 7 x1) 8 x2) 2), .int (gI (sI (sI (sI xb 6 x0) 7 x1) 8 x2) 3), .int (gI (sI (sI (sI xb 6 x0) 7 x1) 8 x2) 4), .ref (q 7), .ref (q 8), .ref (q 9), .int (gI (sI (sI (sI xb 6 x0) 7 x1) 8 x2) 5), .ref (q 10), .int (gI (sI (sI (sI xb 6 x0) 7 x1) 8 x2) 6), .int (gI (sI (sI (sI xb 6 x0) 7 x1) 8 x2) 7), .int (gI (sI (sI (sI xb 6 x0) 7 x1) 8 x2) 8), .int (gI (sI (sI (sI xb 6 x0) 7 x1) 8 x2) 9), .ref (q 11), .long (gL (sI (sI (sI xb 6 x0) 7 x1) 8 x2) 0), .ref (q 12), .ref (q 13), .ref (q 14), .int (gI (sI (sI (sI xb 6 x0) 7 x1) 8 x2) 10)].set 19 (.int xn))) = WM q cy (sI (sI (sI (sI xb 6 x0) 7 x1) 8 x2) 9 xn) ++ rest := fun _ _ _ _ _ => rfl
  have hP : va_P D vwCl (WM q cy (sI (sI (sI (sI u 6 (-1)) 7 (-1)) 8 (-1)) 9 (-1)) ++ rest) H := k_wP (hQ u (-1) (-1) (-1) (-1)) hP
  have hD : va_D A (WM q cy (sI (sI (sI (sI u 6 (-1)) 7 (-1)) 8 (-1)) 9 (-1)) ++ rest) := k_wD (hQ u (-1) (-1) (-1) (-1)) hD
  clear hQ
  refine lv_iload_n hx hb dX6_opens_20 rfl (lv_at hl 1 rfl) ?_
  refine lv_i2l (v := (a1.toInt64)) hx hb dX6_opens_21 rfl ?_
  refine lv_lconst (v := 1) hx hb dX6_opens_22 (by decide) ?_
  refine lv_ldc2 (v := 84) hx hb hown (hts _ wB571) dX6_opens_23 ?_
  obtain ⟨r26, h26r, hf⟩ := o_bs hf
  refine k_goi (va_runS (As := [.long (a1.toInt64), .long 1, .long 84]) (rest := []) ⟨hx, hb, hml, hown, hts⟩ (zX6_in l D cy sa (WM q cy (sI (sI (sI (sI u 6 (-1)) 7 (-1)) 8 (-1)) 9 (-1)) ++ rest) H.size (a1.toInt64) 1 84  r26  h26r) (va_cwS 3 hts (gB_S wB141 wB142 wB5 wB143) rfl rfl rfl (by decide +kernel) ⟨Nat.le_of_ble_eq_true rfl, Nat.le_of_ble_eq_true rfl⟩) ⟨kP.blind, k_pre hP hD hS hE hA⟩ rfl rfl hl.1 rfl (lv_room (Nat.le_of_ble_eq_true rfl)) dX6_opens_26 ⟨Nat.zero_le _, Nat.zero_le _⟩) hD hS hA (fun H locs hP hD hS => ?_)
  refine lv_if_eq (tgt := 52) hx hb dX6_opens_29 (by decide) (fun c29 => ?_) (fun c29 => ?_)
  · have hf := o_ip c29 hf
    refine lv_iload_n hx hb dX6_opens_52 rfl (lv_at hl 1 rfl) ?_
    refine lv_bipush (v := 84) hx hb dX6_opens_53 (by decide) ?_
    refine lv_icmp_le (tgt := 143) hx hb dX6_opens_55 (by decide) (fun c55 => ?_) (fun c55 => ?_)
    · have hf := o_ip c55 hf
      obtain rfl := o_ret hf
      exact k_vret hx hb hr hP hD hS (Nat.zero_le _) (Nat.zero_le _) hlocks dX6_opens_143
    · have hf := o_in c55 hf
      refine lv_iload_n hx hb dX6_opens_58 rfl (lv_at hl 1 rfl) ?_
      refine lv_bipush (v := 85) hx hb dX6_opens_59 (by decide) ?_
      refine lv_isub hx hb dX6_opens_61 ?_
      refine lv_sipush (v := 441) hx hb dX6_opens_62 (by decide) ?_
      refine lv_idiv hx hb dX6_opens_65 (by decide) ?_
      refine lv_istore_n (lv' := [(2, .int ((a1 - 85) / 441)), (0, .ref (q 0)), (1, .int a1)]) hx hb dX6_opens_66 rfl hl (by decide) rfl (fun ls hl => ?_)
      refine lv_aload_n hx hb dX6_opens_67 rfl (lv_at hl 1 rfl) ?_
      refine lv_iload_n hx hb dX6_opens_68 rfl (lv_at hl 0 rfl) ?_
      refine lv_iconst (v := 3) hx hb dX6_opens_69 (by decide) ?_
      refine lv_icmp_ge (tgt := 77) hx hb dX6_opens_70 (by decide) (fun c70 => ?_) (fun c70 => ?_)
      · have hf := o_ip c70 hf
        refine lv_iload_n hx hb dX6_opens_77 rfl (lv_at hl 0 rfl) ?_
        refine lv_iconst (v := 5) hx hb dX6_opens_78 (by decide) ?_
        refine lv_icmp_ge (tgt := 86) hx hb dX6_opens_79 (by decide) (fun c79 => ?_) (fun c79 => ?_)
        · have hf := o_ip c79 hf
          refine lv_iconst (v := 2) hx hb dX6_opens_86 (by decide) ?_
          refine va_put (ci := 6) (v := .int 2) (ty := .int) (C := RX6) (T := TX6) (N := 26) hx hb hts inlX6 tyX6 tyX6_ok nmX6 hown hE.1 hP hD hS 0 rfl rfl 16 (by decide) (hts _ wB558) (fun _ h9 => h9) rfl (by decide +kernel) rfl rfl (Nat.le_of_ble_eq_true rfl) dX6_opens_87 (fun H locs hP hD hS => ?_)
          have hQ : ∀ (xb : KS) (x0 : Int32) (x1 : Int32) (x2 : Int32) (x3 : Int32) (xn : Int32), (WM q cy (sI (sI (sI (sI xb 6 x0) 7 x1) 8 x2) 9 x3) ++ rest).set 0 (q 0, .inr (6, [.ref (q 1), .ref (q 2), .ref (q 3), .ref (q 4), .int (gI (sI (sI (sI (sI xb 6 x0) 7 x1) 8 x2) 9 x3) 0), .ref (q 5), .ref (q 6), .int (gI (sI (sI (sI (sI xb 6 x0) 7 x1) 8 x2) 9 x3) 1), .int (gI (sI (sI (sI (sI xb 6 x0) 7 x1) 8 x2) 9 x3) 2), .int (gI (sI (sI (sI (sI xb 6 x0) 7 x1) 8 x2) 9 x3) 3), .int (gI (sI (sI (sI (sI xb 6 x0) 7 x1) 8 x2) 9 x3) 4), .ref (q 7), .ref (q 8), .ref (q 9), .int (gI (sI (sI (sI (sI xb 6 x0) 7 x1) 8 x2) 9 x3) 5), .ref (q 10), .int (gI (sI (sI (sI (sI xb 6 x0) 7 x1) 8 x2) 9 x3) 6), .int (gI (sI (sI (sI (sI xb 6 x0) 7 x1) 8 x2) 9 x3) 7), .int (gI (sI (sI (sI (sI xb 6 x0) 7 x1) 8 x2) 9 x3) 8), .int (gI (sI (sI (sI (sI xb 6 x0) 7 x1) 8 x2) 9 x3) 9), .ref (q 11), .long (gL (sI (sI (sI (sI xb 6 x0) 7 x1) 8 x2) 9 x3) 0), .ref (q 12), .ref (q 13), .ref (q 14), .int (gI (sI (sI (sI (sI xb 6 x0) 7 x1) 8 x2) 9 x3) 10)].set 16 (.int xn))) = WM q cy (sI (sI (sI (sI xb 6 xn) 7 x1) 8 x2) 9 x3) ++ rest := fun _ _ _ _ _ _ => rfl
          have hP : va_P D vwCl (WM q cy (sI (sI (sI (sI u 6 2) 7 (-1)) 8 (-1)) 9 (-1)) ++ rest) H := k_wP (hQ u (-1) (-1) (-1) (-1) 2) hP
          have hD : va_D A (WM q cy (sI (sI (sI (sI u 6 2) 7 (-1)) 8 (-1)) 9 (-1)) ++ rest) := k_wD (hQ u (-1) (-1) (-1) (-1) 2) hD
          clear hQ
          refine lv_aload_n hx hb dX6_opens_90 rfl (lv_at hl 1 rfl) ?_
          refine lv_iload_n hx hb dX6_opens_91 rfl (lv_at hl 0 rfl) ?_
          refine lv_iconst (v := 3) hx hb dX6_opens_92 (by decide) ?_
          refine lv_icmp_ge (tgt := 102) hx hb dX6_opens_93 (by decide) (fun c93 => ?_) (fun c93 => ?_)
          · have hf := o_ip c93 hf
            refine lv_iload_n hx hb dX6_opens_102 rfl (lv_at hl 0 rfl) ?_
            refine lv_iconst (v := 5) hx hb dX6_opens_103 (by decide) ?_
            refine lv_icmp_ge (tgt := 113) hx hb dX6_opens_104 (by decide) (fun c104 => ?_) (fun c104 => ?_)
            · have hf := o_ip c104 hf
              refine lv_iconst (v := 3) hx hb dX6_opens_113 (by decide) ?_
              refine va_put (ci := 6) (v := .int 3) (ty := .int) (C := RX6) (T := TX6) (N := 26) hx hb hts inlX6 tyX6 tyX6_ok nmX6 hown hE.1 hP hD hS 0 rfl rfl 17 (by decide) (hts _ wB560) (fun _ h9 => h9) rfl (by decide +kernel) rfl rfl (Nat.le_of_ble_eq_true rfl) dX6_opens_114 (fun H locs hP hD hS => ?_)
              have hQ : ∀ (xb : KS) (x0 : Int32) (x1 : Int32) (x2 : Int32) (x3 : Int32) (xn : Int32), (WM q cy (sI (sI (sI (sI xb 6 x0) 7 x1) 8 x2) 9 x3) ++ rest).set 0 (q 0, .inr (6, [.ref (q 1), .ref (q 2), .ref (q 3), .ref (q 4), .int (gI (sI (sI (sI (sI xb 6 x0) 7 x1) 8 x2) 9 x3) 0), .ref (q 5), .ref (q 6), .int (gI (sI (sI (sI (sI xb 6 x0) 7 x1) 8 x2) 9 x3) 1), .int (gI (sI (sI (sI (sI xb 6 x0) 7 x1) 8 x2) 9 x3) 2), .int (gI (sI (sI (sI (sI xb 6 x0) 7 x1) 8 x2) 9 x3) 3), .int (gI (sI (sI (sI (sI xb 6 x0) 7 x1) 8 x2) 9 x3) 4), .ref (q 7), .ref (q 8), .ref (q 9), .int (gI (sI (sI (sI (sI xb 6 x0) 7 x1) 8 x2) 9 x3) 5), .ref (q 10), .int (gI (sI (sI (sI (sI xb 6 x0) 7 x1) 8 x2) 9 x3) 6), .int (gI (sI (sI (sI (sI xb 6 x0) 7 x1) 8 x2) 9 x3) 7), .int (gI (sI (sI (sI (sI xb 6 x0) 7 x1) 8 x2) 9 x3) 8), .int (gI (sI (sI (sI (sI xb 6 x0) 7 x1) 8 x2) 9 x3) 9), .ref (q 11), .long (gL (sI (sI (sI (sI xb 6 x0) 7 x1) 8 x2) 9 x3) 0), .ref (q 12), .ref (q 13), .ref (q 14), .int (gI (sI (sI (sI (sI xb 6 x0) 7 x1) 8 x2) 9 x3) 10)].set 17 (.int xn))) = WM q cy (sI (sI (sI (sI xb 6 x0) 7 xn) 8 x2) 9 x3) ++ rest := fun _ _ _ _ _ _ => rfl
              have hP : va_P D vwCl (WM q cy (sI (sI (sI (sI u 6 2) 7 3) 8 (-1)) 9 (-1)) ++ rest) H := k_wP (hQ u 2 (-1) (-1) (-1) 3) hP
              have hD : va_D A (WM q cy (sI (sI (sI (sI u 6 2) 7 3) 8 (-1)) 9 (-1)) ++ rest) := k_wD (hQ u 2 (-1) (-1) (-1) 3) hD
              clear hQ
              refine lv_aload_n hx hb dX6_opens_117 rfl (lv_at hl 1 rfl) ?_
              refine lv_iload_n hx hb dX6_opens_118 rfl (lv_at hl 2 rfl) ?_
              refine lv_bipush (v := 85) hx hb dX6_opens_119 (by decide) ?_
              refine lv_isub hx hb dX6_opens_121 ?_
              refine lv_sipush (v := 441) hx hb dX6_opens_122 (by decide) ?_
              refine lv_irem hx hb dX6_opens_125 (by decide) ?_
              refine lv_bipush (v := 21) hx hb dX6_opens_126 (by decide) ?_
              refine lv_idiv hx hb dX6_opens_128 (by decide) ?_
              refine va_put (ci := 6) (v := .int (((a1 - 85) - (a1 - 85) / 441 * 441) / 21)) (ty := .int) (C := RX6) (T := TX6) (N := 26) hx hb hts inlX6 tyX6 tyX6_ok nmX6 hown hE.1 hP hD hS 0 rfl rfl 18 (by decide) (hts _ wB559) (fun _ h9 => h9) rfl (by decide +kernel) rfl rfl (Nat.le_of_ble_eq_true rfl) dX6_opens_129 (fun H locs hP hD hS => ?_)
              have hQ : ∀ (xb : KS) (x0 : Int32) (x1 : Int32) (x2 : Int32) (x3 : Int32) (xn : Int32), (WM q cy (sI (sI (sI (sI xb 6 x0) 7 x1) 8 x2) 9 x3) ++ rest).set 0 (q 0, .inr (6, [.ref (q 1), .ref (q 2), .ref (q 3), .ref (q 4), .int (gI (sI (sI (sI (sI xb 6 x0) 7 x1) 8 x2) 9 x3) 0), .ref (q 5), .ref (q 6), .int (gI (sI (sI (sI (sI xb 6 x0) 7 x1) 8 x2) 9 x3) 1), .int (gI (sI (sI (sI (sI xb 6 x0) 7 x1) 8 x2) 9 x3) 2), .int (gI (sI (sI (sI (sI xb 6 x0) 7 x1) 8 x2) 9 x3) 3), .int (gI (sI (sI (sI (sI xb 6 x0) 7 x1) 8 x2) 9 x3) 4), .ref (q 7), .ref (q 8), .ref (q 9), .int (gI (sI (sI (sI (sI xb 6 x0) 7 x1) 8 x2) 9 x3) 5), .ref (q 10), .int (gI (sI (sI (sI (sI xb 6 x0) 7 x1) 8 x2) 9 x3) 6), .int (gI (sI (sI (sI (sI xb 6 x0) 7 x1) 8 x2) 9 x3) 7), .int (gI (sI (sI (sI (sI xb 6 x0) 7 x1) 8 x2) 9 x3) 8), .int (gI (sI (sI (sI (sI xb 6 x0) 7 x1) 8 x2) 9 x3) 9), .ref (q 11), .long (gL (sI (sI (sI (sI xb 6 x0) 7 x1) 8 x2) 9 x3) 0), .ref (q 12), .ref (q 13), .ref (q 14), .int (gI (sI (sI (sI (sI xb 6 x0) 7 x1) 8 x2) 9 x3) 10)].set 18 (.int xn))) = WM q cy (sI (sI (sI (sI xb 6 x0) 7 x1) 8 xn) 9 x3) ++ rest := fun _ _ _ _ _ _ => rfl
              have hP : va_P D vwCl (WM q cy (sI (sI (sI (sI u 6 2) 7 3) 8 (((a1 - 85) - (a1 - 85) / 441 * 441) / 21)) 9 (-1)) ++ rest) H := k_wP (hQ u 2 3 (-1) (-1) (((a1 - 85) - (a1 - 85) / 441 * 441) / 21)) hP
              have hD : va_D A (WM q cy (sI (sI (sI (sI u 6 2) 7 3) 8 (((a1 - 85) - (a1 - 85) / 441 * 441) / 21)) 9 (-1)) ++ rest) := k_wD (hQ u 2 3 (-1) (-1) (((a1 - 85) - (a1 - 85) / 441 * 441) / 21)) hD
              clear hQ
              refine lv_aload_n hx hb dX6_opens_132 rfl (lv_at hl 1 rfl) ?_
              refine lv_iload_n hx hb dX6_opens_133 rfl (lv_at hl 2 rfl) ?_
              refine lv_bipush (v := 85) hx hb dX6_opens_134 (by decide) ?_
              refine lv_isub hx hb dX6_opens_136 ?_
              refine lv_bipush (v := 21) hx hb dX6_opens_137 (by decide) ?_
              refine lv_irem hx hb dX6_opens_139 (by decide) ?_
              refine va_put (ci := 6) (v := .int ((a1 - 85) - (a1 - 85) / 21 * 21)) (ty := .int) (C := RX6) (T := TX6) (N := 26) hx hb hts inlX6 tyX6 tyX6_ok nmX6 hown hE.1 hP hD hS 0 rfl rfl 19 (by decide) (hts _ wB561) (fun _ h9 => h9) rfl (by decide +kernel) rfl rfl (Nat.le_of_ble_eq_true rfl) dX6_opens_140 (fun H locs hP hD hS => ?_)
              have hQ : ∀ (xb : KS) (x0 : Int32) (x1 : Int32) (x2 : Int32) (x3 : Int32) (xn : Int32), (WM q cy (sI (sI (sI (sI xb 6 x0) 7 x1) 8 x2) 9 x3) ++ rest).set 0 (q 0, .inr (6, [.ref (q 1), .ref (q 2), .ref (q 3), .ref (q 4), .int (gI (sI (sI (sI (sI xb 6 x0) 7 x1) 8 x2) 9 x3) 0), .ref (q 5), .ref (q 6), .int (gI (sI (sI (sI (sI xb 6 x0) 7 x1) 8 x2) 9 x3) 1), .int (gI (sI (sI (sI (sI xb 6 x0) 7 x1) 8 x2) 9 x3) 2), .int (gI (sI (sI (sI (sI xb 6 x0) 7 x1) 8 x2) 9 x3) 3), .int (gI (sI (sI (sI (sI xb 6 x0) 7 x1) 8 x2) 9 x3) 4), .ref (q 7), .ref (q 8), .ref (q 9), .int (gI (sI (sI (sI (sI xb 6 x0) 7 x1) 8 x2) 9 x3) 5), .ref (q 10), .int (gI (sI (sI (sI (sI xb 6 x0) 7 x1) 8 x2) 9 x3) 6), .int (gI (sI (sI (sI (sI xb 6 x0) 7 x1) 8 x2) 9 x3) 7), .int (gI (sI (sI (sI (sI xb 6 x0) 7 x1) 8 x2) 9 x3) 8), .int (gI (sI (sI (sI (sI xb 6 x0) 7 x1) 8 x2) 9 x3) 9), .ref (q 11), .long (gL (sI (sI (sI (sI xb 6 x0) 7 x1) 8 x2) 9 x3) 0), .ref (q 12), .ref (q 13), .ref (q 14), .int (gI (sI (sI (sI (sI xb 6 x0) 7 x1) 8 x2) 9 x3) 10)].set 19 (.int xn))) = WM q cy (sI (sI (sI (sI xb 6 x0) 7 x1) 8 x2) 9 xn) ++ rest := fun _ _ _ _ _ _ => rfl
              have hP : va_P D vwCl (WM q cy (sI (sI (sI (sI u 6 2) 7 3) 8 (((a1 - 85) - (a1 - 85) / 441 * 441) / 21)) 9 ((a1 - 85) - (a1 - 85) / 21 * 21)) ++ rest) H := k_wP (hQ u 2 3 (((a1 - 85) - (a1 - 85) / 441 * 441) / 21) (-1) ((a1 - 85) - (a1 - 85) / 21 * 21)) hP
              have hD : va_D A (WM q cy (sI (sI (sI (sI u 6 2) 7 3) 8 (((a1 - 85) - (a1 - 85) / 441 * 441) / 21)) 9 ((a1 - 85) - (a1 - 85) / 21 * 21)) ++ rest) := k_wD (hQ u 2 3 (((a1 - 85) - (a1 - 85) / 441 * 441) / 21) (-1) ((a1 - 85) - (a1 - 85) / 21 * 21)) hD
              clear hQ
              obtain rfl := o_ret hf
              exact k_vret hx hb hr hP hD hS (Nat.zero_le _) (Nat.zero_le _) hlocks dX6_opens_143
            · have hf := o_in c104 hf
              refine lv_iload_n hx hb dX6_opens_107 rfl (lv_at hl 0 rfl) ?_
              refine lv_iconst (v := 1) hx hb dX6_opens_108 (by decide) ?_
              refine lv_isub hx hb dX6_opens_109 ?_
              refine lv_goto (tgt := 114) hx hb dX6_opens_110 (by decide) ?_
              refine va_put (ci := 6) (v := .int (((a1 - 85) / 441) - 1)) (ty := .int) (C := RX6) (T := TX6) (N := 26) hx hb hts inlX6 tyX6 tyX6_ok nmX6 hown hE.1 hP hD hS 0 rfl rfl 17 (by decide) (hts _ wB560) (fun _ h9 => h9) rfl (by decide +kernel) rfl rfl (Nat.le_of_ble_eq_true rfl) dX6_opens_114 (fun H locs hP hD hS => ?_)
              have hQ : ∀ (xb : KS) (x0 : Int32) (x1 : Int32) (x2 : Int32) (x3 : Int32) (xn : Int32), (WM q cy (sI (sI (sI (sI xb 6 x0) 7 x1) 8 x2) 9 x3) ++ rest).set 0 (q 0, .inr (6, [.ref (q 1), .ref (q 2), .ref (q 3), .ref (q 4), .int (gI (sI (sI (sI (sI xb 6 x0) 7 x1) 8 x2) 9 x3) 0), .ref (q 5), .ref (q 6), .int (gI (sI (sI (sI (sI xb 6 x0) 7 x1) 8 x2) 9 x3) 1), .int (gI (sI (sI (sI (sI xb 6 x0) 7 x1) 8 x2) 9 x3) 2), .int (gI (sI (sI (sI (sI xb 6 x0) 7 x1) 8 x2) 9 x3) 3), .int (gI (sI (sI (sI (sI xb 6 x0) 7 x1) 8 x2) 9 x3) 4), .ref (q 7), .ref (q 8), .ref (q 9), .int (gI (sI (sI (sI (sI xb 6 x0) 7 x1) 8 x2) 9 x3) 5), .ref (q 10), .int (gI (sI (sI (sI (sI xb 6 x0) 7 x1) 8 x2) 9 x3) 6), .int (gI (sI (sI (sI (sI xb 6 x0) 7 x1) 8 x2) 9 x3) 7), .int (gI (sI (sI (sI (sI xb 6 x0) 7 x1) 8 x2) 9 x3) 8), .int (gI (sI (sI (sI (sI xb 6 x0) 7 x1) 8 x2) 9 x3) 9), .ref (q 11), .long (gL (sI (sI (sI (sI xb 6 x0) 7 x1) 8 x2) 9 x3) 0), .ref (q 12), .ref (q 13), .ref (q 14), .int (gI (sI (sI (sI (sI xb 6 x0) 7 x1) 8 x2) 9 x3) 10)].set 17 (.int xn))) = WM q cy (sI (sI (sI (sI xb 6 x0) 7 xn) 8 x2) 9 x3) ++ rest := fun _ _ _ _ _ _ => rfl
              have hP : va_P D vwCl (WM q cy (sI (sI (sI (sI u 6 2) 7 (((a1 - 85) / 441) - 1)) 8 (-1)) 9 (-1)) ++ rest) H := k_wP (hQ u 2 (-1) (-1) (-1) (((a1 - 85) / 441) - 1)) hP
              have hD : va_D A (WM q cy (sI (sI (sI (sI u 6 2) 7 (((a1 - 85) / 441) - 1)) 8 (-1)) 9 (-1)) ++ rest) := k_wD (hQ u 2 (-1) (-1) (-1) (((a1 - 85) / 441) - 1)) hD
              clear hQ
              refine lv_aload_n hx hb dX6_opens_117 rfl (lv_at hl 1 rfl) ?_
              refine lv_iload_n hx hb dX6_opens_118 rfl (lv_at hl 2 rfl) ?_
              refine lv_bipush (v := 85) hx hb dX6_opens_119 (by decide) ?_
              refine lv_isub hx hb dX6_opens_121 ?_
              refine lv_sipush (v := 441) hx hb dX6_opens_122 (by decide) ?_
              refine lv_irem hx hb dX6_opens_125 (by decide) ?_
              refine lv_bipush (v := 21) hx hb dX6_opens_126 (by decide) ?_
              refine lv_idiv hx hb dX6_opens_128 (by decide) ?_
              refine va_put (ci := 6) (v := .int (((a1 - 85) - (a1 - 85) / 441 * 441) / 21)) (ty := .int) (C := RX6) (T := TX6) (N := 26) hx hb hts inlX6 tyX6 tyX6_ok nmX6 hown hE.1 hP hD hS 0 rfl rfl 18 (by decide) (hts _ wB559) (fun _ h9 => h9) rfl (by decide +kernel) rfl rfl (Nat.le_of_ble_eq_true rfl) dX6_opens_129 (fun H locs hP hD hS => ?_)
              have hQ : ∀ (xb : KS) (x0 : Int32) (x1 : Int32) (x2 : Int32) (x3 : Int32) (xn : Int32), (WM q cy (sI (sI (sI (sI xb 6 x0) 7 x1) 8 x2) 9 x3) ++ rest).set 0 (q 0, .inr (6, [.ref (q 1), .ref (q 2), .ref (q 3), .ref (q 4), .int (gI (sI (sI (sI (sI xb 6 x0) 7 x1) 8 x2) 9 x3) 0), .ref (q 5), .ref (q 6), .int (gI (sI (sI (sI (sI xb 6 x0) 7 x1) 8 x2) 9 x3) 1), .int (gI (sI (sI (sI (sI xb 6 x0) 7 x1) 8 x2) 9 x3) 2), .int (gI (sI (sI (sI (sI xb 6 x0) 7 x1) 8 x2) 9 x3) 3), .int (gI (sI (sI (sI (sI xb 6 x0) 7 x1) 8 x2) 9 x3) 4), .ref (q 7), .ref (q 8), .ref (q 9), .int (gI (sI (sI (sI (sI xb 6 x0) 7 x1) 8 x2) 9 x3) 5), .ref (q 10), .int (gI (sI (sI (sI (sI xb 6 x0) 7 x1) 8 x2) 9 x3) 6), .int (gI (sI (sI (sI (sI xb 6 x0) 7 x1) 8 x2) 9 x3) 7), .int (gI (sI (sI (sI (sI xb 6 x0) 7 x1) 8 x2) 9 x3) 8), .int (gI (sI (sI (sI (sI xb 6 x0) 7 x1) 8 x2) 9 x3) 9), .ref (q 11), .long (gL (sI (sI (sI (sI xb 6 x0) 7 x1) 8 x2) 9 x3) 0), .ref (q 12), .ref (q 13), .ref (q 14), .int (gI (sI (sI (sI (sI xb 6 x0) 7 x1) 8 x2) 9 x3) 10)].set 18 (.int xn))) = WM q cy (sI (sI (sI (sI xb 6 x0) 7 x1) 8 xn) 9 x3) ++ rest := fun _ _ _ _ _ _ => rfl
              have hP : va_P D vwCl (WM q cy (sI (sI (sI (sI u 6 2) 7 (((a1 - 85) / 441) - 1)) 8 (((a1 - 85) - (a1 - 85) / 441 * 441) / 21)) 9 (-1)) ++ rest) H := k_wP (hQ u 2 (((a1 - 85) / 441) - 1) (-1) (-1) (((a1 - 85) - (a1 - 85) / 441 * 441) / 21)) hP
              have hD : va_D A (WM q cy (sI (sI (sI (sI u 6 2) 7 (((a1 - 85) / 441) - 1)) 8 (((a1 - 85) - (a1 - 85) / 441 * 441) / 21)) 9 (-1)) ++ rest) := k_wD (hQ u 2 (((a1 - 85) / 441) - 1) (-1) (-1) (((a1 - 85) - (a1 - 85) / 441 * 441) / 21)) hD
              clear hQ
              refine lv_aload_n hx hb dX6_opens_132 rfl (lv_at hl 1 rfl) ?_
              refine lv_iload_n hx hb dX6_opens_133 rfl (lv_at hl 2 rfl) ?_
              refine lv_bipush (v := 85) hx hb dX6_opens_134 (by decide) ?_
              refine lv_isub hx hb dX6_opens_136 ?_
              refine lv_bipush (v := 21) hx hb dX6_opens_137 (by decide) ?_
              refine lv_irem hx hb dX6_opens_139 (by decide) ?_
              refine va_put (ci := 6) (v := .int ((a1 - 85) - (a1 - 85) / 21 * 21)) (ty := .int) (C := RX6) (T := TX6) (N := 26) hx hb hts inlX6 tyX6 tyX6_ok nmX6 hown hE.1 hP hD hS 0 rfl rfl 19 (by decide) (hts _ wB561) (fun _ h9 => h9) rfl (by decide +kernel) rfl rfl (Nat.le_of_ble_eq_true rfl) dX6_opens_140 (fun H locs hP hD hS => ?_)
              have hQ : ∀ (xb : KS) (x0 : Int32) (x1 : Int32) (x2 : Int32) (x3 : Int32) (xn : Int32), (WM q cy (sI (sI (sI (sI xb 6 x0) 7 x1) 8 x2) 9 x3) ++ rest).set 0 (q 0, .inr (6, [.ref (q 1), .ref (q 2), .ref (q 3), .ref (q 4), .int (gI (sI (sI (sI (sI xb 6 x0) 7 x1) 8 x2) 9 x3) 0), .ref (q 5), .ref (q 6), .int (gI (sI (sI (sI (sI xb 6 x0) 7 x1) 8 x2) 9 x3) 1), .int (gI (sI (sI (sI (sI xb 6 x0) 7 x1) 8 x2) 9 x3) 2), .int (gI (sI (sI (sI (sI xb 6 x0) 7 x1) 8 x2) 9 x3) 3), .int (gI (sI (sI (sI (sI xb 6 x0) 7 x1) 8 x2) 9 x3) 4), .ref (q 7), .ref (q 8), .ref (q 9), .int (gI (sI (sI (sI (sI xb 6 x0) 7 x1) 8 x2) 9 x3) 5), .ref (q 10), .int (gI (sI (sI (sI (sI xb 6 x0) 7 x1) 8 x2) 9 x3) 6), .int (gI (sI (sI (sI (sI xb 6 x0) 7 x1) 8 x2) 9 x3) 7), .int (gI (sI (sI (sI (sI xb 6 x0) 7 x1) 8 x2) 9 x3) 8), .int (gI (sI (sI (sI (sI xb 6 x0) 7 x1) 8 x2) 9 x3) 9), .ref (q 11), .long (gL (sI (sI (sI (sI xb 6 x0) 7 x1) 8 x2) 9 x3) 0), .ref (q 12), .ref (q 13), .ref (q 14), .int (gI (sI (sI (sI (sI xb 6 x0) 7 x1) 8 x2) 9 x3) 10)].set 19 (.int xn))) = WM q cy (sI (sI (sI (sI xb 6 x0) 7 x1) 8 x2) 9 xn) ++ rest := fun _ _ _ _ _ _ => rfl
              have hP : va_P D vwCl (WM q cy (sI (sI (sI (sI u 6 2) 7 (((a1 - 85) / 441) - 1)) 8 (((a1 - 85) - (a1 - 85) / 441 * 441) / 21)) 9 ((a1 - 85) - (a1 - 85) / 21 * 21)) ++ rest) H := k_wP (hQ u 2 (((a1 - 85) / 441) - 1) (((a1 - 85) - (a1 - 85) / 441 * 441) / 21) (-1) ((a1 - 85) - (a1 - 85) / 21 * 21)) hP
              have hD : va_D A (WM q cy (sI (sI (sI (sI u 6 2) 7 (((a1 - 85) / 441) - 1)) 8 (((a1 - 85) - (a1 - 85) / 441 * 441) / 21)) 9 ((a1 - 85) - (a1 - 85) / 21 * 21)) ++ rest) := k_wD (hQ u 2 (((a1 - 85) / 441) - 1) (((a1 - 85) - (a1 - 85) / 441 * 441) / 21) (-1) ((a1 - 85) - (a1 - 85) / 21 * 21)) hD
              clear hQ
              obtain rfl := o_ret hf
              exact k_vret hx hb hr hP hD hS (Nat.zero_le _) (Nat.zero_le _) hlocks dX6_opens_143
          · have hf := o_in c93 hf
            refine lv_iload_n hx hb dX6_opens_96 rfl (lv_at hl 0 rfl) ?_
            refine lv_iconst (v := 1) hx hb dX6_opens_97 (by decide) ?_
            refine lv_iadd hx hb dX6_opens_98 ?_
            refine lv_goto (tgt := 114) hx hb dX6_opens_99 (by decide) ?_
            refine va_put (ci := 6) (v := .int (((a1 - 85) / 441) + 1)) (ty := .int) (C := RX6) (T := TX6) (N := 26) hx hb hts inlX6 tyX6 tyX6_ok nmX6 hown hE.1 hP hD hS 0 rfl rfl 17 (by decide) (hts _ wB560) (fun _ h9 => h9) rfl (by decide +kernel) rfl rfl (Nat.le_of_ble_eq_true rfl) dX6_opens_114 (fun H locs hP hD hS => ?_)
            have hQ : ∀ (xb : KS) (x0 : Int32) (x1 : Int32) (x2 : Int32) (x3 : Int32) (xn : Int32), (WM q cy (sI (sI (sI (sI xb 6 x0) 7 x1) 8 x2) 9 x3) ++ rest).set 0 (q 0, .inr (6, [.ref (q 1), .ref (q 2), .ref (q 3), .ref (q 4), .int (gI (sI (sI (sI (sI xb 6 x0) 7 x1) 8 x2) 9 x3) 0), .ref (q 5), .ref (q 6), .int (gI (sI (sI (sI (sI xb 6 x0) 7 x1) 8 x2) 9 x3) 1), .int (gI (sI (sI (sI (sI xb 6 x0) 7 x1) 8 x2) 9 x3) 2), .int (gI (sI (sI (sI (sI xb 6 x0) 7 x1) 8 x2) 9 x3) 3), .int (gI (sI (sI (sI (sI xb 6 x0) 7 x1) 8 x2) 9 x3) 4), .ref (q 7), .ref (q 8), .ref (q 9), .int (gI (sI (sI (sI (sI xb 6 x0) 7 x1) 8 x2) 9 x3) 5), .ref (q 10), .int (gI (sI (sI (sI (sI xb 6 x0) 7 x1) 8 x2) 9 x3) 6), .int (gI (sI (sI (sI (sI xb 6 x0) 7 x1) 8 x2) 9 x3) 7), .int (gI (sI (sI (sI (sI xb 6 x0) 7 x1) 8 x2) 9 x3) 8), .int (gI (sI (sI (sI (sI xb 6 x0) 7 x1) 8 x2) 9 x3) 9), .ref (q 11), .long (gL (sI (sI (sI (sI xb 6 x0) 7 x1) 8 x2) 9 x3) 0), .ref (q 12), .ref (q 13), .ref (q 14), .int (gI (sI (sI (sI (sI xb 6 x0) 7 x1) 8 x2) 9 x3) 10)].set 17 (.int xn))) = WM q cy (sI (sI (sI (sI xb 6 x0) 7 xn) 8 x2) 9 x3) ++ rest := fun _ _ _ _ _ _ => rfl
            have hP : va_P D vwCl (WM q cy (sI (sI (sI (sI u 6 2) 7 (((a1 - 85) / 441) + 1)) 8 (-1)) 9 (-1)) ++ rest) H := k_wP (hQ u 2 (-1) (-1) (-1) (((a1 - 85) / 441) + 1)) hP
            have hD : va_D A (WM q cy (sI (sI (sI (sI u 6 2) 7 (((a1 - 85) / 441) + 1)) 8 (-1)) 9 (-1)) ++ rest) := k_wD (hQ u 2 (-1) (-1) (-1) (((a1 - 85) / 441) + 1)) hD
            clear hQ
            refine lv_aload_n hx hb dX6_opens_117 rfl (lv_at hl 1 rfl) ?_
            refine lv_iload_n hx hb dX6_opens_118 rfl (lv_at hl 2 rfl) ?_
            refine lv_bipush (v := 85) hx hb dX6_opens_119 (by decide) ?_
            refine lv_isub hx hb dX6_opens_121 ?_
            refine lv_sipush (v := 441) hx hb dX6_opens_122 (by decide) ?_
            refine lv_irem hx hb dX6_opens_125 (by decide) ?_
            refine lv_bipush (v := 21) hx hb dX6_opens_126 (by decide) ?_
            refine lv_idiv hx hb dX6_opens_128 (by decide) ?_
            refine va_put (ci := 6) (v := .int (((a1 - 85) - (a1 - 85) / 441 * 441) / 21)) (ty := .int) (C := RX6) (T := TX6) (N := 26) hx hb hts inlX6 tyX6 tyX6_ok nmX6 hown hE.1 hP hD hS 0 rfl rfl 18 (by decide) (hts _ wB559) (fun _ h9 => h9) rfl (by decide +kernel) rfl rfl (Nat.le_of_ble_eq_true rfl) dX6_opens_129 (fun H locs hP hD hS => ?_)
            have hQ : ∀ (xb : KS) (x0 : Int32) (x1 : Int32) (x2 : Int32) (x3 : Int32) (xn : Int32), (WM q cy (sI (sI (sI (sI xb 6 x0) 7 x1) 8 x2) 9 x3) ++ rest).set 0 (q 0, .inr (6, [.ref (q 1), .ref (q 2), .ref (q 3), .ref (q 4), .int (gI (sI (sI (sI (sI xb 6 x0) 7 x1) 8 x2) 9 x3) 0), .ref (q 5), .ref (q 6), .int (gI (sI (sI (sI (sI xb 6 x0) 7 x1) 8 x2) 9 x3) 1), .int (gI (sI (sI (sI (sI xb 6 x0) 7 x1) 8 x2) 9 x3) 2), .int (gI (sI (sI (sI (sI xb 6 x0) 7 x1) 8 x2) 9 x3) 3), .int (gI (sI (sI (sI (sI xb 6 x0) 7 x1) 8 x2) 9 x3) 4), .ref (q 7), .ref (q 8), .ref (q 9), .int (gI (sI (sI (sI (sI xb 6 x0) 7 x1) 8 x2) 9 x3) 5), .ref (q 10), .int (gI (sI (sI (sI (sI xb 6 x0) 7 x1) 8 x2) 9 x3) 6), .int (gI (sI (sI (sI (sI xb 6 x0) 7 x1) 8 x2) 9 x3) 7), .int (gI (sI (sI (sI (sI xb 6 x0) 7 x1) 8 x2) 9 x3) 8), .int (gI (sI (sI (sI (sI xb 6 x0) 7 x1) 8 x2) 9 x3) 9), .ref (q 11), .long (gL (sI (sI (sI (sI xb 6 x0) 7 x1) 8 x2) 9 x3) 0), .ref (q 12), .ref (q 13), .ref (q 14), .int (gI (sI (sI (sI (sI xb 6 x0) 7 x1) 8 x2) 9 x3) 10)].set 18 (.int xn))) = WM q cy (sI (sI (sI (sI xb 6 x0) 7 x1) 8 xn) 9 x3) ++ rest := fun _ _ _ _ _ _ => rfl
            have hP : va_P D vwCl (WM q cy (sI (sI (sI (sI u 6 2) 7 (((a1 - 85) / 441) + 1)) 8 (((a1 - 85) - (a1 - 85) / 441 * 441) / 21)) 9 (-1)) ++ rest) H := k_wP (hQ u 2 (((a1 - 85) / 441) + 1) (-1) (-1) (((a1 - 85) - (a1 - 85) / 441 * 441) / 21)) hP
            have hD : va_D A (WM q cy (sI (sI (sI (sI u 6 2) 7 (((a1 - 85) / 441) + 1)) 8 (((a1 - 85) - (a1 - 85) / 441 * 441) / 21)) 9 (-1)) ++ rest) := k_wD (hQ u 2 (((a1 - 85) / 441) + 1) (-1) (-1) (((a1 - 85) - (a1 - 85) / 441 * 441) / 21)) hD
            clear hQ
            refine lv_aload_n hx hb dX6_opens_132 rfl (lv_at hl 1 rfl) ?_
            refine lv_iload_n hx hb dX6_opens_133 rfl (lv_at hl 2 rfl) ?_
            refine lv_bipush (v := 85) hx hb dX6_opens_134 (by decide) ?_
            refine lv_isub hx hb dX6_opens_136 ?_
            refine lv_bipush (v := 21) hx hb dX6_opens_137 (by decide) ?_
            refine lv_irem hx hb dX6_opens_139 (by decide) ?_
            refine va_put (ci := 6) (v := .int ((a1 - 85) - (a1 - 85) / 21 * 21)) (ty := .int) (C := RX6) (T := TX6) (N := 26) hx hb hts inlX6 tyX6 tyX6_ok nmX6 hown hE.1 hP hD hS 0 rfl rfl 19 (by decide) (hts _ wB561) (fun _ h9 => h9) rfl (by decide +kernel) rfl rfl (Nat.le_of_ble_eq_true rfl) dX6_opens_140 (fun H locs hP hD hS => ?_)
            have hQ : ∀ (xb : KS) (x0 : Int32) (x1 : Int32) (x2 : Int32) (x3 : Int32) (xn : Int32), (WM q cy (sI (sI (sI (sI xb 6 x0) 7 x1) 8 x2) 9 x3) ++ rest).set 0 (q 0, .inr (6, [.ref (q 1), .ref (q 2), .ref (q 3), .ref (q 4), .int (gI (sI (sI (sI (sI xb 6 x0) 7 x1) 8 x2) 9 x3) 0), .ref (q 5), .ref (q 6), .int (gI (sI (sI (sI (sI xb 6 x0) 7 x1) 8 x2) 9 x3) 1), .int (gI (sI (sI (sI (sI xb 6 x0) 7 x1) 8 x2) 9 x3) 2), .int (gI (sI (sI (sI (sI xb 6 x0) 7 x1) 8 x2) 9 x3) 3), .int (gI (sI (sI (sI (sI xb 6 x0) 7 x1) 8 x2) 9 x3) 4), .ref (q 7), .ref (q 8), .ref (q 9), .int (gI (sI (sI (sI (sI xb 6 x0) 7 x1) 8 x2) 9 x3) 5), .ref (q 10), .int (gI (sI (sI (sI (sI xb 6 x0) 7 x1) 8 x2) 9 x3) 6), .int (gI (sI (sI (sI (sI xb 6 x0) 7 x1) 8 x2) 9 x3) 7), .int (gI (sI (sI (sI (sI xb 6 x0) 7 x1) 8 x2) 9 x3) 8), .int (gI (sI (sI (sI (sI xb 6 x0) 7 x1) 8 x2) 9 x3) 9), .ref (q 11), .long (gL (sI (sI (sI (sI xb 6 x0) 7 x1) 8 x2) 9 x3) 0), .ref (q 12), .ref (q 13), .ref (q 14), .int (gI (sI (sI (sI (sI xb 6 x0) 7 x1) 8 x2) 9 x3) 10)].set 19 (.int xn))) = WM q cy (sI (sI (sI (sI xb 6 x0) 7 x1) 8 x2) 9 xn) ++ rest := fun _ _ _ _ _ _ => rfl
            have hP : va_P D vwCl (WM q cy (sI (sI (sI (sI u 6 2) 7 (((a1 - 85) / 441) + 1)) 8 (((a1 - 85) - (a1 - 85) / 441 * 441) / 21)) 9 ((a1 - 85) - (a1 - 85) / 21 * 21)) ++ rest) H := k_wP (hQ u 2 (((a1 - 85) / 441) + 1) (((a1 - 85) - (a1 - 85) / 441 * 441) / 21) (-1) ((a1 - 85) - (a1 - 85) / 21 * 21)) hP
            have hD : va_D A (WM q cy (sI (sI (sI (sI u 6 2) 7 (((a1 - 85) / 441) + 1)) 8 (((a1 - 85) - (a1 - 85) / 441 * 441) / 21)) 9 ((a1 - 85) - (a1 - 85) / 21 * 21)) ++ rest) := k_wD (hQ u 2 (((a1 - 85) / 441) + 1) (((a1 - 85) - (a1 - 85) / 441 * 441) / 21) (-1) ((a1 - 85) - (a1 - 85) / 21 * 21)) hD
            clear hQ
            obtain rfl := o_ret hf
            exact k_vret hx hb hr hP hD hS (Nat.zero_le _) (Nat.zero_le _) hlocks dX6_opens_143
        · have hf := o_in c79 hf
          refine lv_iconst (v := 1) hx hb dX6_opens_82 (by decide) ?_
          refine lv_goto (tgt := 87) hx hb dX6_opens_83 (by decide) ?_
          refine va_put (ci := 6) (v := .int 1) (ty := .int) (C := RX6) (T := TX6) (N := 26) hx hb hts inlX6 tyX6 tyX6_ok nmX6 hown hE.1 hP hD hS 0 rfl rfl 16 (by decide) (hts _ wB558) (fun _ h9 => h9) rfl (by decide +kernel) rfl rfl (Nat.le_of_ble_eq_true rfl) dX6_opens_87 (fun H locs hP hD hS => ?_)
          have hQ : ∀ (xb : KS) (x0 : Int32) (x1 : Int32) (x2 : Int32) (x3 : Int32) (xn : Int32), (WM q cy (sI (sI (sI (sI xb 6 x0) 7 x1) 8 x2) 9 x3) ++ rest).set 0 (q 0, .inr (6, [.ref (q 1), .ref (q 2), .ref (q 3), .ref (q 4), .int (gI (sI (sI (sI (sI xb 6 x0) 7 x1) 8 x2) 9 x3) 0), .ref (q 5), .ref (q 6), .int (gI (sI (sI (sI (sI xb 6 x0) 7 x1) 8 x2) 9 x3) 1), .int (gI (sI (sI (sI (sI xb 6 x0) 7 x1) 8 x2) 9 x3) 2), .int (gI (sI (sI (sI (sI xb 6 x0) 7 x1) 8 x2) 9 x3) 3), .int (gI (sI (sI (sI (sI xb 6 x0) 7 x1) 8 x2) 9 x3) 4), .ref (q 7), .ref (q 8), .ref (q 9), .int (gI (sI (sI (sI (sI xb 6 x0) 7 x1) 8 x2) 9 x3) 5), .ref (q 10), .int (gI (sI (sI (sI (sI xb 6 x0) 7 x1) 8 x2) 9 x3) 6), .int (gI (sI (sI (sI (sI xb 6 x0) 7 x1) 8 x2) 9 x3) 7), .int (gI (sI (sI (sI (sI xb 6 x0) 7 x1) 8 x2) 9 x3) 8), .int (gI (sI (sI (sI (sI xb 6 x0) 7 x1) 8 x2) 9 x3) 9), .ref (q 11), .long (gL (sI (sI (sI (sI xb 6 x0) 7 x1) 8 x2) 9 x3) 0), .ref (q 12), .ref (q 13), .ref (q 14), .int (gI (sI (sI (sI (sI xb 6 x0) 7 x1) 8 x2) 9 x3) 10)].set 16 (.int xn))) = WM q cy (sI (sI (sI (sI xb 6 xn) 7 x1) 8 x2) 9 x3) ++ rest := fun _ _ _ _ _ _ => rfl
          have hP : va_P D vwCl (WM q cy (sI (sI (sI (sI u 6 1) 7 (-1)) 8 (-1)) 9 (-1)) ++ rest) H := k_wP (hQ u (-1) (-1) (-1) (-1) 1) hP
          have hD : va_D A (WM q cy (sI (sI (sI (sI u 6 1) 7 (-1)) 8 (-1)) 9 (-1)) ++ rest) := k_wD (hQ u (-1) (-1) (-1) (-1) 1) hD
          clear hQ
          refine lv_aload_n hx hb dX6_opens_90 rfl (lv_at hl 1 rfl) ?_
          refine lv_iload_n hx hb dX6_opens_91 rfl (lv_at hl 0 rfl) ?_
          refine lv_iconst (v := 3) hx hb dX6_opens_92 (by decide) ?_
          refine lv_icmp_ge (tgt := 102) hx hb dX6_opens_93 (by decide) (fun c93 => ?_) (fun c93 => ?_)
          · have hf := o_ip c93 hf
            refine lv_iload_n hx hb dX6_opens_102 rfl (lv_at hl 0 rfl) ?_
            refine lv_iconst (v := 5) hx hb dX6_opens_103 (by decide) ?_
            refine lv_icmp_ge (tgt := 113) hx hb dX6_opens_104 (by decide) (fun c104 => ?_) (fun c104 => ?_)
            · have hf := o_ip c104 hf
              refine lv_iconst (v := 3) hx hb dX6_opens_113 (by decide) ?_
              refine va_put (ci := 6) (v := .int 3) (ty := .int) (C := RX6) (T := TX6) (N := 26) hx hb hts inlX6 tyX6 tyX6_ok nmX6 hown hE.1 hP hD hS 0 rfl rfl 17 (by decide) (hts _ wB560) (fun _ h9 => h9) rfl (by decide +kernel) rfl rfl (Nat.le_of_ble_eq_true rfl) dX6_opens_114 (fun H locs hP hD hS => ?_)
              have hQ : ∀ (xb : KS) (x0 : Int32) (x1 : Int32) (x2 : Int32) (x3 : Int32) (xn : Int32), (WM q cy (sI (sI (sI (sI xb 6 x0) 7 x1) 8 x2) 9 x3) ++ rest).set 0 (q 0, .inr (6, [.ref (q 1), .ref (q 2), .ref (q 3), .ref (q 4), .int (gI (sI (sI (sI (sI xb 6 x0) 7 x1) 8 x2) 9 x3) 0), .ref (q 5), .ref (q 6), .int (gI (sI (sI (sI (sI xb 6 x0) 7 x1) 8 x2) 9 x3) 1), .int (gI (sI (sI (sI (sI xb 6 x0) 7 x1) 8 x2) 9 x3) 2), .int (gI (sI (sI (sI (sI xb 6 x0) 7 x1) 8 x2) 9 x3) 3), .int (gI (sI (sI (sI (sI xb 6 x0) 7 x1) 8 x2) 9 x3) 4), .ref (q 7), .ref (q 8), .ref (q 9), .int (gI (sI (sI (sI (sI xb 6 x0) 7 x1) 8 x2) 9 x3) 5), .ref (q 10), .int (gI (sI (sI (sI (sI xb 6 x0) 7 x1) 8 x2) 9 x3) 6), .int (gI (sI (sI (sI (sI xb 6 x0) 7 x1) 8 x2) 9 x3) 7), .int (gI (sI (sI (sI (sI xb 6 x0) 7 x1) 8 x2) 9 x3) 8), .int (gI (sI (sI (sI (sI xb 6 x0) 7 x1) 8 x2) 9 x3) 9), .ref (q 11), .long (gL (sI (sI (sI (sI xb 6 x0) 7 x1) 8 x2) 9 x3) 0), .ref (q 12), .ref (q 13), .ref (q 14), .int (gI (sI (sI (sI (sI xb 6 x0) 7 x1) 8 x2) 9 x3) 10)].set 17 (.int xn))) = WM q cy (sI (sI (sI (sI xb 6 x0) 7 xn) 8 x2) 9 x3) ++ rest := fun _ _ _ _ _ _ => rfl
              have hP : va_P D vwCl (WM q cy (sI (sI (sI (sI u 6 1) 7 3) 8 (-1)) 9 (-1)) ++ rest) H := k_wP (hQ u 1 (-1) (-1) (-1) 3) hP
              have hD : va_D A (WM q cy (sI (sI (sI (sI u 6 1) 7 3) 8 (-1)) 9 (-1)) ++ rest) := k_wD (hQ u 1 (-1) (-1) (-1) 3) hD
              clear hQ
              refine lv_aload_n hx hb dX6_opens_117 rfl (lv_at hl 1 rfl) ?_
              refine lv_iload_n hx hb dX6_opens_118 rfl (lv_at hl 2 rfl) ?_
              refine lv_bipush (v := 85) hx hb dX6_opens_119 (by decide) ?_
              refine lv_isub hx hb dX6_opens_121 ?_
              refine lv_sipush (v := 441) hx hb dX6_opens_122 (by decide) ?_
              refine lv_irem hx hb dX6_opens_125 (by decide) ?_
              refine lv_bipush (v := 21) hx hb dX6_opens_126 (by decide) ?_
              refine lv_idiv hx hb dX6_opens_128 (by decide) ?_
              refine va_put (ci := 6) (v := .int (((a1 - 85) - (a1 - 85) / 441 * 441) / 21)) (ty := .int) (C := RX6) (T := TX6) (N := 26) hx hb hts inlX6 tyX6 tyX6_ok nmX6 hown hE.1 hP hD hS 0 rfl rfl 18 (by decide) (hts _ wB559) (fun _ h9 => h9) rfl (by decide +kernel) rfl rfl (Nat.le_of_ble_eq_true rfl) dX6_opens_129 (fun H locs hP hD hS => ?_)
              have hQ : ∀ (xb : KS) (x0 : Int32) (x1 : Int32) (x2 : Int32) (x3 : Int32) (xn : Int32), (WM q cy (sI (sI (sI (sI xb 6 x0) 7 x1) 8 x2) 9 x3) ++ rest).set 0 (q 0, .inr (6, [.ref (q 1), .ref (q 2), .ref (q 3), .ref (q 4), .int (gI (sI (sI (sI (sI xb 6 x0) 7 x1) 8 x2) 9 x3) 0), .ref (q 5), .ref (q 6), .int (gI (sI (sI (sI (sI xb 6 x0) 7 x1) 8 x2) 9 x3) 1), .int (gI (sI (sI (sI (sI xb 6 x0) 7 x1) 8 x2) 9 x3) 2), .int (gI (sI (sI (sI (sI xb 6 x0) 7 x1) 8 x2) 9 x3) 3), .int (gI (sI (sI (sI (sI xb 6 x0) 7 x1) 8 x2) 9 x3) 4), .ref (q 7), .ref (q 8), .ref (q 9), .int (gI (sI (sI (sI (sI xb 6 x0) 7 x1) 8 x2) 9 x3) 5), .ref (q 10), .int (gI (sI (sI (sI (sI xb 6 x0) 7 x1) 8 x2) 9 x3) 6), .int (gI (sI (sI (sI (sI xb 6 x0) 7 x1) 8 x2) 9 x3) 7), .int (gI (sI (sI (sI (sI xb 6 x0) 7 x1) 8 x2) 9 x3) 8), .int (gI (sI (sI (sI (sI xb 6 x0) 7 x1) 8 x2) 9 x3) 9), .ref (q 11), .long (gL (sI (sI (sI (sI xb 6 x0) 7 x1) 8 x2) 9 x3) 0), .ref (q 12), .ref (q 13), .ref (q 14), .int (gI (sI (sI (sI (sI xb 6 x0) 7 x1) 8 x2) 9 x3) 10)].set 18 (.int xn))) = WM q cy (sI (sI (sI (sI xb 6 x0) 7 x1) 8 xn) 9 x3) ++ rest := fun _ _ _ _ _ _ => rfl
              have hP : va_P D vwCl (WM q cy (sI (sI (sI (sI u 6 1) 7 3) 8 (((a1 - 85) - (a1 - 85) / 441 * 441) / 21)) 9 (-1)) ++ rest) H := k_wP (hQ u 1 3 (-1) (-1) (((a1 - 85) - (a1 - 85) / 441 * 441) / 21)) hP
              have hD : va_D A (WM q cy (sI (sI (sI (sI u 6 1) 7 3) 8 (((a1 - 85) - (a1 - 85) / 441 * 441) / 21)) 9 (-1)) ++ rest) := k_wD (hQ u 1 3 (-1) (-1) (((a1 - 85) - (a1 - 85) / 441 * 441) / 21)) hD
              clear hQ
              refine lv_aload_n hx hb dX6_opens_132 rfl (lv_at hl 1 rfl) ?_
              refine lv_iload_n hx hb dX6_opens_133 rfl (lv_at hl 2 rfl) ?_
              refine lv_bipush (v := 85) hx hb dX6_opens_134 (by decide) ?_
              refine lv_isub hx hb dX6_opens_136 ?_
              refine lv_bipush (v := 21) hx hb dX6_opens_137 (by decide) ?_
              refine lv_irem hx hb dX6_opens_139 (by decide) ?_
              refine va_put (ci := 6) (v := .int ((a1 - 85) - (a1 - 85) / 21 * 21)) (ty := .int) (C := RX6) (T := TX6) (N := 26) hx hb hts inlX6 tyX6 tyX6_ok nmX6 hown hE.1 hP hD hS 0 rfl rfl 19 (by decide) (hts _ wB561) (fun _ h9 => h9) rfl (by decide +kernel) rfl rfl (Nat.le_of_ble_eq_true rfl) dX6_opens_140 (fun H locs hP hD hS => ?_)
              have hQ : ∀ (xb : KS) (x0 : Int32) (x1 : Int32) (x2 : Int32) (x3 : Int32) (xn : Int32), (WM q cy (sI (sI (sI (sI xb 6 x0) 7 x1) 8 x2) 9 x3) ++ rest).set 0 (q 0, .inr (6, [.ref (q 1), .ref (q 2), .ref (q 3), .ref (q 4), .int (gI (sI (sI (sI (sI xb 6 x0) 7 x1) 8 x2) 9 x3) 0), .ref (q 5), .ref (q 6), .int (gI (sI (sI (sI (sI xb 6 x0) 7 x1) 8 x2) 9 x3) 1), .int (gI (sI (sI (sI (sI xb 6 x0) 7 x1) 8 x2) 9 x3) 2), .int (gI (sI (sI (sI (sI xb 6 x0) 7 x1) 8 x2) 9 x3) 3), .int (gI (sI (sI (sI (sI xb 6 x0) 7 x1) 8 x2) 9 x3) 4), .ref (q 7), .ref (q 8), .ref (q 9), .int (gI (sI (sI (sI (sI xb 6 x0) 7 x1) 8 x2) 9 x3) 5), .ref (q 10), .int (gI (sI (sI (sI (sI xb 6 x0) 7 x1) 8 x2) 9 x3) 6), .int (gI (sI (sI (sI (sI xb 6 x0) 7 x1) 8 x2) 9 x3) 7), .int (gI (sI (sI (sI (sI xb 6 x0) 7 x1) 8 x2) 9 x3) 8), .int (gI (sI (sI (sI (sI xb 6 x0) 7 x1) 8 x2) 9 x3) 9), .ref (q 11), .long (gL (sI (sI (sI (sI xb 6 x0) 7 x1) 8 x2) 9 x3) 0), .ref (q 12), .ref (q 13), .ref (q 14), .int (gI (sI (sI (sI (sI xb 6 x0) 7 x1) 8 x2) 9 x3) 10)].set 19 (.int xn))) = WM q cy (sI (sI (sI (sI xb 6 x0) 7 x1) 8 x2) 9 xn) ++ rest := fun _ _ _ _ _ _ => rfl
              have hP : va_P D vwCl (WM q cy (sI (sI (sI (sI u 6 1) 7 3) 8 (((a1 - 85) - (a1 - 85) / 441 * 441) / 21)) 9 ((a1 - 85) - (a1 - 85) / 21 * 21)) ++ rest) H := k_wP (hQ u 1 3 (((a1 - 85) - (a1 - 85) / 441 * 441) / 21) (-1) ((a1 - 85) - (a1 - 85) / 21 * 21)) hP
              have hD : va_D A (WM q cy (sI (sI (sI (sI u 6 1) 7 3) 8 (((a1 - 85) - (a1 - 85) / 441 * 441) / 21)) 9 ((a1 - 85) - (a1 - 85) / 21 * 21)) ++ rest) := k_wD (hQ u 1 3 (((a1 - 85) - (a1 - 85) / 441 * 441) / 21) (-1) ((a1 - 85) - (a1 - 85) / 21 * 21)) hD
              clear hQ
              obtain rfl := o_ret hf
              exact k_vret hx hb hr hP hD hS (Nat.zero_le _) (Nat.zero_le _) hlocks dX6_opens_143
            · have hf := o_in c104 hf
              refine lv_iload_n hx hb dX6_opens_107 rfl (lv_at hl 0 rfl) ?_
              refine lv_iconst (v := 1) hx hb dX6_opens_108 (by decide) ?_
              refine lv_isub hx hb dX6_opens_109 ?_
              refine lv_goto (tgt := 114) hx hb dX6_opens_110 (by decide) ?_
              refine va_put (ci := 6) (v := .int (((a1 - 85) / 441) - 1)) (ty := .int) (C := RX6) (T := TX6) (N := 26) hx hb hts inlX6 tyX6 tyX6_ok nmX6 hown hE.1 hP hD hS 0 rfl rfl 17 (by decide) (hts _ wB560) (fun _ h9 => h9) rfl (by decide +kernel) rfl rfl (Nat.le_of_ble_eq_true rfl) dX6_opens_114 (fun H locs hP hD hS => ?_)
              have hQ : ∀ (xb : KS) (x0 : Int32) (x1 : Int32) (x2 : Int32) (x3 : Int32) (xn : Int32), (WM q cy (sI (sI (sI (sI xb 6 x0) 7 x1) 8 x2) 9 x3) ++ rest).set 0 (q 0, .inr (6, [.ref (q 1), .ref (q 2), .ref (q 3), .ref (q 4), .int (gI (sI (sI (sI (sI xb 6 x0) 7 x1) 8 x2) 9 x3) 0), .ref (q 5), .ref (q 6), .int (gI (sI (sI (sI (sI xb 6 x0) 7 x1) 8 x2) 9 x3) 1), .int (gI (sI (sI (sI (sI xb 6 x0) 7 x1) 8 x2) 9 x3) 2), .int (gI (sI (sI (sI (sI xb 6 x0) 7 x1) 8 x2) 9 x3) 3), .int (gI (sI (sI (sI (sI xb 6 x0) 7 x1) 8 x2) 9 x3) 4), .ref (q 7), .ref (q 8), .ref (q 9), .int (gI (sI (sI (sI (sI xb 6 x0) 7 x1) 8 x2) 9 x3) 5), .ref (q 10), .int (gI (sI (sI (sI (sI xb 6 x0) 7 x1) 8 x2) 9 x3) 6), .int (gI (sI (sI (sI (sI xb 6 x0) 7 x1) 8 x2) 9 x3) 7), .int (gI (sI (sI (sI (sI xb 6 x0) 7 x1) 8 x2) 9 x3) 8), .int (gI (sI (sI (sI (sI xb 6 x0) 7 x1) 8 x2) 9 x3) 9), .ref (q 11), .long (gL (sI (sI (sI (sI xb 6 x0) 7 x1) 8 x2) 9 x3) 0), .ref (q 12), .ref (q 13), .ref (q 14), .int (gI (sI (sI (sI (sI xb 6 x0) 7 x1) 8 x2) 9 x3) 10)].set 17 (.int xn))) = WM q cy (sI (sI (sI (sI xb 6 x0) 7 xn) 8 x2) 9 x3) ++ rest := fun _ _ _ _ _ _ => rfl
              have hP : va_P D vwCl (WM q cy (sI (sI (sI (sI u 6 1) 7 (((a1 - 85) / 441) - 1)) 8 (-1)) 9 (-1)) ++ rest) H := k_wP (hQ u 1 (-1) (-1) (-1) (((a1 - 85) / 441) - 1)) hP
              have hD : va_D A (WM q cy (sI (sI (sI (sI u 6 1) 7 (((a1 - 85) / 441) - 1)) 8 (-1)) 9 (-1)) ++ rest) := k_wD (hQ u 1 (-1) (-1) (-1) (((a1 - 85) / 441) - 1)) hD
              clear hQ
              refine lv_aload_n hx hb dX6_opens_117 rfl (lv_at hl 1 rfl) ?_
              refine lv_iload_n hx hb dX6_opens_118 rfl (lv_at hl 2 rfl) ?_
              refine lv_bipush (v := 85) hx hb dX6_opens_119 (by decide) ?_
              refine lv_isub hx hb dX6_opens_121 ?_
              refine lv_sipush (v := 441) hx hb dX6_opens_122 (by decide) ?_
              refine lv_irem hx hb dX6_opens_125 (by decide) ?_
              refine lv_bipush (v := 21) hx hb dX6_opens_126 (by decide) ?_
              refine lv_idiv hx hb dX6_opens_128 (by decide) ?_
              refine va_put (ci := 6) (v := .int (((a1 - 85) - (a1 - 85) / 441 * 441) / 21)) (ty := .int) (C := RX6) (T := TX6) (N := 26) hx hb hts inlX6 tyX6 tyX6_ok nmX6 hown hE.1 hP hD hS 0 rfl rfl 18 (by decide) (hts _ wB559) (fun _ h9 => h9) rfl (by decide +kernel) rfl rfl (Nat.le_of_ble_eq_true rfl) dX6_opens_129 (fun H locs hP hD hS => ?_)
              have hQ : ∀ (xb : KS) (x0 : Int32) (x1 : Int32) (x2 : Int32) (x3 : Int32) (xn : Int32), (WM q cy (sI (sI (sI (sI xb 6 x0) 7 x1) 8 x2) 9 x3) ++ rest).set 0 (q 0, .inr (6, [.ref (q 1), .ref (q 2), .ref (q 3), .ref (q 4), .int (gI (sI (sI (sI (sI xb 6 x0) 7 x1) 8 x2) 9 x3) 0), .ref (q 5), .ref (q 6), .int (gI (sI (sI (sI (sI xb 6 x0) 7 x1) 8 x2) 9 x3) 1), .int (gI (sI (sI (sI (sI xb 6 x0) 7 x1) 8 x2) 9 x3) 2), .int (gI (sI (sI (sI (sI xb 6 x0) 7 x1) 8 x2) 9 x3) 3), .int (gI (sI (sI (sI (sI xb 6 x0) 7 x1) 8 x2) 9 x3) 4), .ref (q 7), .ref (q 8), .ref (q 9), .int (gI (sI (sI (sI (sI xb 6 x0) 7 x1) 8 x2) 9 x3) 5), .ref (q 10), .int (gI (sI (sI (sI (sI xb 6 x0) 7 x1) 8 x2) 9 x3) 6), .int (gI (sI (sI (sI (sI xb 6 x0) 7 x1) 8 x2) 9 x3) 7), .int (gI (sI (sI (sI (sI xb 6 x0) 7 x1) 8 x2) 9 x3) 8), .int (gI (sI (sI (sI (sI xb 6 x0) 7 x1) 8 x2) 9 x3) 9), .ref (q 11), .long (gL (sI (sI (sI (sI xb 6 x0) 7 x1) 8 x2) 9 x3) 0), .ref (q 12), .ref (q 13), .ref (q 14), .int (gI (sI (sI (sI (sI xb 6 x0) 7 x1) 8 x2) 9 x3) 10)].set 18 (.int xn))) = WM q cy (sI (sI (sI (sI xb 6 x0) 7 x1) 8 xn) 9 x3) ++ rest := fun _ _ _ _ _ _ => rfl
              have hP : va_P D vwCl (WM q cy (sI (sI (sI (sI u 6 1) 7 (((a1 - 85) / 441) - 1)) 8 (((a1 - 85) - (a1 - 85) / 441 * 441) / 21)) 9 (-1)) ++ rest) H := k_wP (hQ u 1 (((a1 - 85) / 441) - 1) (-1) (-1) (((a1 - 85) - (a1 - 85) / 441 * 441) / 21)) hP
              have hD : va_D A (WM q cy (sI (sI (sI (sI u 6 1) 7 (((a1 - 85) / 441) - 1)) 8 (((a1 - 85) - (a1 - 85) / 441 * 441) / 21)) 9 (-1)) ++ rest) := k_wD (hQ u 1 (((a1 - 85) / 441) - 1) (-1) (-1) (((a1 - 85) - (a1 - 85) / 441 * 441) / 21)) hD
              clear hQ
              refine lv_aload_n hx hb dX6_opens_132 rfl (lv_at hl 1 rfl) ?_
              refine lv_iload_n hx hb dX6_opens_133 rfl (lv_at hl 2 rfl) ?_
              refine lv_bipush (v := 85) hx hb dX6_opens_134 (by decide) ?_
              refine lv_isub hx hb dX6_opens_136 ?_
              refine lv_bipush (v := 21) hx hb dX6_opens_137 (by decide) ?_
              refine lv_irem hx hb dX6_opens_139 (by decide) ?_
              refine va_put (ci := 6) (v := .int ((a1 - 85) - (a1 - 85) / 21 * 21)) (ty := .int) (C := RX6) (T := TX6) (N := 26) hx hb hts inlX6 tyX6 tyX6_ok nmX6 hown hE.1 hP hD hS 0 rfl rfl 19 (by decide) (hts _ wB561) (fun _ h9 => h9) rfl (by decide +kernel) rfl rfl (Nat.le_of_ble_eq_true rfl) dX6_opens_140 (fun H locs hP hD hS => ?_)
              have hQ : ∀ (xb : KS) (x0 : Int32) (x1 : Int32) (x2 : Int32) (x3 : Int32) (xn : Int32), (WM q cy (sI (sI (sI (sI xb 6 x0) 7 x1) 8 x2) 9 x3) ++ rest).set 0 (q 0, .inr (6, [.ref (q 1), .ref (q 2), .ref (q 3), .ref (q 4), .int (gI (sI (sI (sI (sI xb 6 x0) 7 x1) 8 x2) 9 x3) 0), .ref (q 5), .ref (q 6), .int (gI (sI (sI (sI (sI xb 6 x0) 7 x1) 8 x2) 9 x3) 1), .int (gI (sI (sI (sI (sI xb 6 x0) 7 x1) 8 x2) 9 x3) 2), .int (gI (sI (sI (sI (sI xb 6 x0) 7 x1) 8 x2) 9 x3) 3), .int (gI (sI (sI (sI (sI xb 6 x0) 7 x1) 8 x2) 9 x3) 4), .ref (q 7), .ref (q 8), .ref (q 9), .int (gI (sI (sI (sI (sI xb 6 x0) 7 x1) 8 x2) 9 x3) 5), .ref (q 10), .int (gI (sI (sI (sI (sI xb 6 x0) 7 x1) 8 x2) 9 x3) 6), .int (gI (sI (sI (sI (sI xb 6 x0) 7 x1) 8 x2) 9 x3) 7), .int (gI (sI (sI (sI (sI xb 6 x0) 7 x1) 8 x2) 9 x3) 8), .int (gI (sI (sI (sI (sI xb 6 x0) 7 x1) 8 x2) 9 x3) 9), .ref (q 11), .long (gL (sI (sI (sI (sI xb 6 x0) 7 x1) 8 x2) 9 x3) 0), .ref (q 12), .ref (q 13), .ref (q 14), .int (gI (sI (sI (sI (sI xb 6 x0) 7 x1) 8 x2) 9 x3) 10)].set 19 (.int xn))) = WM q cy (sI (sI (sI (sI xb 6 x0) 7 x1) 8 x2) 9 xn) ++ rest := fun _ _ _ _ _ _ => rfl
              have hP : va_P D vwCl (WM q cy (sI (sI (sI (sI u 6 1) 7 (((a1 - 85) / 441) - 1)) 8 (((a1 - 85) - (a1 - 85) / 441 * 441) / 21)) 9 ((a1 - 85) - (a1 - 85) / 21 * 21)) ++ rest) H := k_wP (hQ u 1 (((a1 - 85) / 441) - 1) (((a1 - 85) - (a1 - 85) / 441 * 441) / 21) (-1) ((a1 - 85) - (a1 - 85) / 21 * 21)) hP
              have hD : va_D A (WM q cy (sI (sI (sI (sI u 6 1) 7 (((a1 - 85) / 441) - 1)) 8 (((a1 - 85) - (a1 - 85) / 441 * 441) / 21)) 9 ((a1 - 85) - (a1 - 85) / 21 * 21)) ++ rest) := k_wD (hQ u 1 (((a1 - 85) / 441) - 1) (((a1 - 85) - (a1 - 85) / 441 * 441) / 21) (-1) ((a1 - 85) - (a1 - 85) / 21 * 21)) hD
              clear hQ
              obtain rfl := o_ret hf
              exact k_vret hx hb hr hP hD hS (Nat.zero_le _) (Nat.zero_le _) hlocks dX6_opens_143
          · have hf := o_in c93 hf
            refine lv_iload_n hx hb dX6_opens_96 rfl (lv_at hl 0 rfl) ?_
            refine lv_iconst (v := 1) hx hb dX6_opens_97 (by decide) ?_
            refine lv_iadd hx hb dX6_opens_98 ?_
            refine lv_goto (tgt := 114) hx hb dX6_opens_99 (by decide) ?_
            refine va_put (ci := 6) (v := .int (((a1 - 85) / 441) + 1)) (ty := .int) (C := RX6) (T := TX6) (N := 26) hx hb hts inlX6 tyX6 tyX6_ok nmX6 hown hE.1 hP hD hS 0 rfl rfl 17 (by decide) (hts _ wB560) (fun _ h9 => h9) rfl (by decide +kernel) rfl rfl (Nat.le_of_ble_eq_true rfl) dX6_opens_114 (fun H locs hP hD hS => ?_)
            have hQ : ∀ (xb : KS) (x0 : Int32) (x1 : Int32) (x2 : Int32) (x3 : Int32) (xn : Int32), (WM q cy (sI (sI (sI (sI xb 6 x0) 7 x1) 8 x2) 9 x3) ++ rest).set 0 (q 0, .inr (6, [.ref (q 1), .ref (q 2), .ref (q 3), .ref (q 4), .int (gI (sI (sI (sI (sI xb 6 x0) 7 x1) 8 x2) 9 x3) 0), .ref (q 5), .ref (q 6), .int (gI (sI (sI (sI (sI xb 6 x0) 7 x1) 8 x2) 9 x3) 1), .int (gI (sI (sI (sI (sI xb 6 x0) 7 x1) 8 x2) 9 x3) 2), .int (gI (sI (sI (sI (sI xb 6 x0) 7 x1) 8 x2) 9 x3) 3), .int (gI (sI (sI (sI (sI xb 6 x0) 7 x1) 8 x2) 9 x3) 4), .ref (q 7), .ref (q 8), .ref (q 9), .int (gI (sI (sI (sI (sI xb 6 x0) 7 x1) 8 x2) 9 x3) 5), .ref (q 10), .int (gI (sI (sI (sI (sI xb 6 x0) 7 x1) 8 x2) 9 x3) 6), .int (gI (sI (sI (sI (sI xb 6 x0) 7 x1) 8 x2) 9 x3) 7), .int (gI (sI (sI (sI (sI xb 6 x0) 7 x1) 8 x2) 9 x3) 8), .int (gI (sI (sI (sI (sI xb 6 x0) 7 x1) 8 x2) 9 x3) 9), .ref (q 11), .long (gL (sI (sI (sI (sI xb 6 x0) 7 x1) 8 x2) 9 x3) 0), .ref (q 12), .ref (q 13), .ref (q 14), .int (gI (sI (sI (sI (sI xb 6 x0) 7 x1) 8 x2) 9 x3) 10)].set 17 (.int xn))) = WM q cy (sI (sI (sI (sI xb 6 x0) 7 xn) 8 x2) 9 x3) ++ rest := fun _ _ _ _ _ _ => rfl
            have hP : va_P D vwCl (WM q cy (sI (sI (sI (sI u 6 1) 7 (((a1 - 85) / 441) + 1)) 8 (-1)) 9 (-1)) ++ rest) H := k_wP (hQ u 1 (-1) (-1) (-1) (((a1 - 85) / 441) + 1)) hP
            have hD : va_D A (WM q cy (sI (sI (sI (sI u 6 1) 7 (((a1 - 85) / 441) + 1)) 8 (-1)) 9 (-1)) ++ rest) := k_wD (hQ u 1 (-1) (-1) (-1) (((a1 - 85) / 441) + 1)) hD
            clear hQ
            refine lv_aload_n hx hb dX6_opens_117 rfl (lv_at hl 1 rfl) ?_
            refine lv_iload_n hx hb dX6_opens_118 rfl (lv_at hl 2 rfl) ?_
            refine lv_bipush (v := 85) hx hb dX6_opens_119 (by decide) ?_
            refine lv_isub hx hb dX6_opens_121 ?_
            refine lv_sipush (v := 441) hx hb dX6_opens_122 (by decide) ?_
            refine lv_irem hx hb dX6_opens_125 (by decide) ?_
            refine lv_bipush (v := 21) hx hb dX6_opens_126 (by decide) ?_
            refine lv_idiv hx hb dX6_opens_128 (by decide) ?_
            refine va_put (ci := 6) (v := .int (((a1 - 85) - (a1 - 85) / 441 * 441) / 21)) (ty := .int) (C := RX6) (T := TX6) (N := 26) hx hb hts inlX6 tyX6 tyX6_ok nmX6 hown hE.1 hP hD hS 0 rfl rfl 18 (by decide) (hts _ wB559) (fun _ h9 => h9) rfl (by decide +kernel) rfl rfl (Nat.le_of_ble_eq_true rfl) dX6_opens_129 (fun H locs hP hD hS => ?_)
            have hQ : ∀ (xb : KS) (x0 : Int32) (x1 : Int32) (x2 : Int32) (x3 : Int32) (xn : Int32), (WM q cy (sI (sI (sI (sI xb 6 x0) 7 x1) 8 x2) 9 x3) ++ rest).set 0 (q 0, .inr (6, [.ref (q 1), .ref (q 2), .ref (q 3), .ref (q 4), .int (gI (sI (sI (sI (sI xb 6 x0) 7 x1) 8 x2) 9 x3) 0), .ref (q 5), .ref (q 6), .int (gI (sI (sI (sI (sI xb 6 x0) 7 x1) 8 x2) 9 x3) 1), .int (gI (sI (sI (sI (sI xb 6 x0) 7 x1) 8 x2) 9 x3) 2), .int (gI (sI (sI (sI (sI xb 6 x0) 7 x1) 8 x2) 9 x3) 3), .int (gI (sI (sI (sI (sI xb 6 x0) 7 x1) 8 x2) 9 x3) 4), .ref (q 7), .ref (q 8), .ref (q 9), .int (gI (sI (sI (sI (sI xb 6 x0) 7 x1) 8 x2) 9 x3) 5), .ref (q 10), .int (gI (sI (sI (sI (sI xb 6 x0) 7 x1) 8 x2) 9 x3) 6), .int (gI (sI (sI (sI (sI xb 6 x0) 7 x1) 8 x2) 9 x3) 7), .int (gI (sI (sI (sI (sI xb 6 x0) 7 x1) 8 x2) 9 x3) 8), .int (gI (sI (sI (sI (sI xb 6 x0) 7 x1) 8 x2) 9 x3) 9), .ref (q 11), .long (gL (sI (sI (sI (sI xb 6 x0) 7 x1) 8 x2) 9 x3) 0), .ref (q 12), .ref (q 13), .ref (q 14), .int (gI (sI (sI (sI (sI xb 6 x0) 7 x1) 8 x2) 9 x3) 10)].set 18 (.int xn))) = WM q cy (sI (sI (sI (sI xb 6 x0) 7 x1) 8 xn) 9 x3) ++ rest := fun _ _ _ _ _ _ => rfl
            have hP : va_P D vwCl (WM q cy (sI (sI (sI (sI u 6 1) 7 (((a1 - 85) / 441) + 1)) 8 (((a1 - 85) - (a1 - 85) / 441 * 441) / 21)) 9 (-1)) ++ rest) H := k_wP (hQ u 1 (((a1 - 85) / 441) + 1) (-1) (-1) (((a1 - 85) - (a1 - 85) / 441 * 441) / 21)) hP
            have hD : va_D A (WM q cy (sI (sI (sI (sI u 6 1) 7 (((a1 - 85) / 441) + 1)) 8 (((a1 - 85) - (a1 - 85) / 441 * 441) / 21)) 9 (-1)) ++ rest) := k_wD (hQ u 1 (((a1 - 85) / 441) + 1) (-1) (-1) (((a1 - 85) - (a1 - 85) / 441 * 441) / 21)) hD
            clear hQ
            refine lv_aload_n hx hb dX6_opens_132 rfl (lv_at hl 1 rfl) ?_
            refine lv_iload_n hx hb dX6_opens_133 rfl (lv_at hl 2 rfl) ?_
            refine lv_bipush (v := 85) hx hb dX6_opens_134 (by decide) ?_
            refine lv_isub hx hb dX6_opens_136 ?_
            refine lv_bipush (v := 21) hx hb dX6_opens_137 (by decide) ?_
            refine lv_irem hx hb dX6_opens_139 (by decide) ?_
            refine va_put (ci := 6) (v := .int ((a1 - 85) - (a1 - 85) / 21 * 21)) (ty := .int) (C := RX6) (T := TX6) (N := 26) hx hb hts inlX6 tyX6 tyX6_ok nmX6 hown hE.1 hP hD hS 0 rfl rfl 19 (by decide) (hts _ wB561) (fun _ h9 => h9) rfl (by decide +kernel) rfl rfl (Nat.le_of_ble_eq_true rfl) dX6_opens_140 (fun H locs hP hD hS => ?_)
            have hQ : ∀ (xb : KS) (x0 : Int32) (x1 : Int32) (x2 : Int32) (x3 : Int32) (xn : Int32), (WM q cy (sI (sI (sI (sI xb 6 x0) 7 x1) 8 x2) 9 x3) ++ rest).set 0 (q 0, .inr (6, [.ref (q 1), .ref (q 2), .ref (q 3), .ref (q 4), .int (gI (sI (sI (sI (sI xb 6 x0) 7 x1) 8 x2) 9 x3) 0), .ref (q 5), .ref (q 6), .int (gI (sI (sI (sI (sI xb 6 x0) 7 x1) 8 x2) 9 x3) 1), .int (gI (sI (sI (sI (sI xb 6 x0) 7 x1) 8 x2) 9 x3) 2), .int (gI (sI (sI (sI (sI xb 6 x0) 7 x1) 8 x2) 9 x3) 3), .int (gI (sI (sI (sI (sI xb 6 x0) 7 x1) 8 x2) 9 x3) 4), .ref (q 7), .ref (q 8), .ref (q 9), .int (gI (sI (sI (sI (sI xb 6 x0) 7 x1) 8 x2) 9 x3) 5), .ref (q 10), .int (gI (sI (sI (sI (sI xb 6 x0) 7 x1) 8 x2) 9 x3) 6), .int (gI (sI (sI (sI (sI xb 6 x0) 7 x1) 8 x2) 9 x3) 7), .int (gI (sI (sI (sI (sI xb 6 x0) 7 x1) 8 x2) 9 x3) 8), .int (gI (sI (sI (sI (sI xb 6 x0) 7 x1) 8 x2) 9 x3) 9), .ref (q 11), .long (gL (sI (sI (sI (sI xb 6 x0) 7 x1) 8 x2) 9 x3) 0), .ref (q 12), .ref (q 13), .ref (q 14), .int (gI (sI (sI (sI (sI xb 6 x0) 7 x1) 8 x2) 9 x3) 10)].set 19 (.int xn))) = WM q cy (sI (sI (sI (sI xb 6 x0) 7 x1) 8 x2) 9 xn) ++ rest := fun _ _ _ _ _ _ => rfl
            have hP : va_P D vwCl (WM q cy (sI (sI (sI (sI u 6 1) 7 (((a1 - 85) / 441) + 1)) 8 (((a1 - 85) - (a1 - 85) / 441 * 441) / 21)) 9 ((a1 - 85) - (a1 - 85) / 21 * 21)) ++ rest) H := k_wP (hQ u 1 (((a1 - 85) / 441) + 1) (((a1 - 85) - (a1 - 85) / 441 * 441) / 21) (-1) ((a1 - 85) - (a1 - 85) / 21 * 21)) hP
            have hD : va_D A (WM q cy (sI (sI (sI (sI u 6 1) 7 (((a1 - 85) / 441) + 1)) 8 (((a1 - 85) - (a1 - 85) / 441 * 441) / 21)) 9 ((a1 - 85) - (a1 - 85) / 21 * 21)) ++ rest) := k_wD (hQ u 1 (((a1 - 85) / 441) + 1) (((a1 - 85) - (a1 - 85) / 441 * 441) / 21) (-1) ((a1 - 85) - (a1 - 85) / 21 * 21)) hD
            clear hQ
            obtain rfl := o_ret hf
            exact k_vret hx hb hr hP hD hS (Nat.zero_le _) (Nat.zero_le _) hlocks dX6_opens_143
      · have hf := o_in c70 hf
        refine lv_iconst (v := 0) hx hb dX6_opens_73 (by decide) ?_
        refine lv_goto (tgt := 87) hx hb dX6_opens_74 (by decide) ?_
        refine va_put (ci := 6) (v := .int 0) (ty := .int) (C := RX6) (T := TX6) (N := 26) hx hb hts inlX6 tyX6 tyX6_ok nmX6 hown hE.1 hP hD hS 0 rfl rfl 16 (by decide) (hts _ wB558) (fun _ h9 => h9) rfl (by decide +kernel) rfl rfl (Nat.le_of_ble_eq_true rfl) dX6_opens_87 (fun H locs hP hD hS => ?_)
        have hQ : ∀ (xb : KS) (x0 : Int32) (x1 : Int32) (x2 : Int32) (x3 : Int32) (xn : Int32), (WM q cy (sI (sI (sI (sI xb 6 x0) 7 x1) 8 x2) 9 x3) ++ rest).set 0 (q 0, .inr (6, [.ref (q 1), .ref (q 2), .ref (q 3), .ref (q 4), .int (gI (sI (sI (sI (sI xb 6 x0) 7 x1) 8 x2) 9 x3) 0), .ref (q 5), .ref (q 6), .int (gI (sI (sI (sI (sI xb 6 x0) 7 x1) 8 x2) 9 x3) 1), .int (gI (sI (sI (sI (sI xb 6 x0) 7 x1) 8 x2) 9 x3) 2), .int (gI (sI (sI (sI (sI xb 6 x0) 7 x1) 8 x2) 9 x3) 3), .int (gI (sI (sI (sI (sI xb 6 x0) 7 x1) 8 x2) 9 x3) 4), .ref (q 7), .ref (q 8), .ref (q 9), .int (gI (sI (sI (sI (sI xb 6 x0) 7 x1) 8 x2) 9 x3) 5), .ref (q 10), .int (gI (sI (sI (sI (sI xb 6 x0) 7 x1) 8 x2) 9 x3) 6), .int (gI (sI (sI (sI (sI xb 6 x0) 7 x1) 8 x2) 9 x3) 7), .int (gI (sI (sI (sI (sI xb 6 x0) 7 x1) 8 x2) 9 x3) 8), .int (gI (sI (sI (sI (sI xb 6 x0) 7 x1) 8 x2) 9 x3) 9), .ref (q 11), .long (gL (sI (sI (sI (sI xb 6 x0) 7 x1) 8 x2) 9 x3) 0), .ref (q 12), .ref (q 13), .ref (q 14), .int (gI (sI (sI (sI (sI xb 6 x0) 7 x1) 8 x2) 9 x3) 10)].set 16 (.int xn))) = WM q cy (sI (sI (sI (sI xb 6 xn) 7 x1) 8 x2) 9 x3) ++ rest := fun _ _ _ _ _ _ => rfl
        have hP : va_P D vwCl (WM q cy (sI (sI (sI (sI u 6 0) 7 (-1)) 8 (-1)) 9 (-1)) ++ rest) H := k_wP (hQ u (-1) (-1) (-1) (-1) 0) hP
        have hD : va_D A (WM q cy (sI (sI (sI (sI u 6 0) 7 (-1)) 8 (-1)) 9 (-1)) ++ rest) := k_wD (hQ u (-1) (-1) (-1) (-1) 0) hD
        clear hQ
        refine lv_aload_n hx hb dX6_opens_90 rfl (lv_at hl 1 rfl) ?_
        refine lv_iload_n hx hb dX6_opens_91 rfl (lv_at hl 0 rfl) ?_
        refine lv_iconst (v := 3) hx hb dX6_opens_92 (by decide) ?_
        refine lv_icmp_ge (tgt := 102) hx hb dX6_opens_93 (by decide) (fun c93 => ?_) (fun c93 => ?_)
        · have hf := o_ip c93 hf
          refine lv_iload_n hx hb dX6_opens_102 rfl (lv_at hl 0 rfl) ?_
          refine lv_iconst (v := 5) hx hb dX6_opens_103 (by decide) ?_
          refine lv_icmp_ge (tgt := 113) hx hb dX6_opens_104 (by decide) (fun c104 => ?_) (fun c104 => ?_)
          · have hf := o_ip c104 hf
            refine lv_iconst (v := 3) hx hb dX6_opens_113 (by decide) ?_
            refine va_put (ci := 6) (v := .int 3) (ty := .int) (C := RX6) (T := TX6) (N := 26) hx hb hts inlX6 tyX6 tyX6_ok nmX6 hown hE.1 hP hD hS 0 rfl rfl 17 (by decide) (hts _ wB560) (fun _ h9 => h9) rfl (by decide +kernel) rfl rfl (Nat.le_of_ble_eq_true rfl) dX6_opens_114 (fun H locs hP hD hS => ?_)
            have hQ : ∀ (xb : KS) (x0 : Int32) (x1 : Int32) (x2 : Int32) (x3 : Int32) (xn : Int32), (WM q cy (sI (sI (sI (sI xb 6 x0) 7 x1) 8 x2) 9 x3) ++ rest).set 0 (q 0, .inr (6, [.ref (q 1), .ref (q 2), .ref (q 3), .ref (q 4), .int (gI (sI (sI (sI (sI xb 6 x0) 7 x1) 8 x2) 9 x3) 0), .ref (q 5), .ref (q 6), .int (gI (sI (sI (sI (sI xb 6 x0) 7 x1) 8 x2) 9 x3) 1), .int (gI (sI (sI (sI (sI xb 6 x0) 7 x1) 8 x2) 9 x3) 2), .int (gI (sI (sI (sI (sI xb 6 x0) 7 x1) 8 x2) 9 x3) 3), .int (gI (sI (sI (sI (sI xb 6 x0) 7 x1) 8 x2) 9 x3) 4), .ref (q 7), .ref (q 8), .ref (q 9), .int (gI (sI (sI (sI (sI xb 6 x0) 7 x1) 8 x2) 9 x3) 5), .ref (q 10), .int (gI (sI (sI (sI (sI xb 6 x0) 7 x1) 8 x2) 9 x3) 6), .int (gI (sI (sI (sI (sI xb 6 x0) 7 x1) 8 x2) 9 x3) 7), .int (gI (sI (sI (sI (sI xb 6 x0) 7 x1) 8 x2) 9 x3) 8), .int (gI (sI (sI (sI (sI xb 6 x0) 7 x1) 8 x2) 9 x3) 9), .ref (q 11), .long (gL (sI (sI (sI (sI xb 6 x0) 7 x1) 8 x2) 9 x3) 0), .ref (q 12), .ref (q 13), .ref (q 14), .int (gI (sI (sI (sI (sI xb 6 x0) 7 x1) 8 x2) 9 x3) 10)].set 17 (.int xn))) = WM q cy (sI (sI (sI (sI xb 6 x0) 7 xn) 8 x2) 9 x3) ++ rest := fun _ _ _ _ _ _ => rfl
            have hP : va_P D vwCl (WM q cy (sI (sI (sI (sI u 6 0) 7 3) 8 (-1)) 9 (-1)) ++ rest) H := k_wP (hQ u 0 (-1) (-1) (-1) 3) hP
            have hD : va_D A (WM q cy (sI (sI (sI (sI u 6 0) 7 3) 8 (-1)) 9 (-1)) ++ rest) := k_wD (hQ u 0 (-1) (-1) (-1) 3) hD
            clear hQ
            refine lv_aload_n hx hb dX6_opens_117 rfl (lv_at hl 1 rfl) ?_
            refine lv_iload_n hx hb dX6_opens_118 rfl (lv_at hl 2 rfl) ?_
            refine lv_bipush (v := 85) hx hb dX6_opens_119 (by decide) ?_
            refine lv_isub hx hb dX6_opens_121 ?_
            refine lv_sipush (v := 441) hx hb dX6_opens_122 (by decide) ?_
            refine lv_irem hx hb dX6_opens_125 (by decide) ?_
            refine lv_bipush (v := 21) hx hb dX6_opens_126 (by decide) ?_
            refine lv_idiv hx hb dX6_opens_128 (by decide) ?_
            refine va_put (ci := 6) (v := .int (((a1 - 85) - (a1 - 85) / 441 * 441) / 21)) (ty := .int) (C := RX6) (T := TX6) (N := 26) hx hb hts inlX6 tyX6 tyX6_ok nmX6 hown hE.1 hP hD hS 0 rfl rfl 18 (by decide) (hts _ wB559) (fun _ h9 => h9) rfl (by decide +kernel) rfl rfl (Nat.le_of_ble_eq_true rfl) dX6_opens_129 (fun H locs hP hD hS => ?_)
            have hQ : ∀ (xb : KS) (x0 : Int32) (x1 : Int32) (x2 : Int32) (x3 : Int32) (xn : Int32), (WM q cy (sI (sI (sI (sI xb 6 x0) 7 x1) 8 x2) 9 x3) ++ rest).set 0 (q 0, .inr (6, [.ref (q 1), .ref (q 2), .ref (q 3), .ref (q 4), .int (gI (sI (sI (sI (sI xb 6 x0) 7 x1) 8 x2) 9 x3) 0), .ref (q 5), .ref (q 6), .int (gI (sI (sI (sI (sI xb 6 x0) 7 x1) 8 x2) 9 x3) 1), .int (gI (sI (sI (sI (sI xb 6 x0) 7 x1) 8 x2) 9 x3) 2), .int (gI (sI (sI (sI (sI xb 6 x0) 7 x1) 8 x2) 9 x3) 3), .int (gI (sI (sI (sI (sI xb 6 x0) 7 x1) 8 x2) 9 x3) 4), .ref (q 7), .ref (q 8), .ref (q 9), .int (gI (sI (sI (sI (sI xb 6 x0) 7 x1) 8 x2) 9 x3) 5), .ref (q 10), .int (gI (sI (sI (sI (sI xb 6 x0) 7 x1) 8 x2) 9 x3) 6), .int (gI (sI (sI (sI (sI xb 6 x0) 7 x1) 8 x2) 9 x3) 7), .int (gI (sI (sI (sI (sI xb 6 x0) 7 x1) 8 x2) 9 x3) 8), .int (gI (sI (sI (sI (sI xb 6 x0) 7 x1) 8 x2) 9 x3) 9), .ref (q 11), .long (gL (sI (sI (sI (sI xb 6 x0) 7 x1) 8 x2) 9 x3) 0), .ref (q 12), .ref (q 13), .ref (q 14), .int (gI (sI (sI (sI (sI xb 6 x0) 7 x1) 8 x2) 9 x3) 10)].set 18 (.int xn))) = WM q cy (sI (sI (sI (sI xb 6 x0) 7 x1) 8 xn) 9 x3) ++ rest := fun _ _ _ _ _ _ => rfl
            have hP : va_P D vwCl (WM q cy (sI (sI (sI (sI u 6 0) 7 3) 8 (((a1 - 85) - (a1 - 85) / 441 * 441) / 21)) 9 (-1)) ++ rest) H := k_wP (hQ u 0 3 (-1) (-1) (((a1 - 85) - (a1 - 85) / 441 * 441) / 21)) hP
            have hD : va_D A (WM q cy (sI (sI (sI (sI u 6 0) 7 3) 8 (((a1 - 85) - (a1 - 85) / 441 * 441) / 21)) 9 (-1)) ++ rest) := k_wD (hQ u 0 3 (-1) (-1) (((a1 - 85) - (a1 - 85) / 441 * 441) / 21)) hD
            clear hQ
            refine lv_aload_n hx hb dX6_opens_132 rfl (lv_at hl 1 rfl) ?_
            refine lv_iload_n hx hb dX6_opens_133 rfl (lv_at hl 2 rfl) ?_
            refine lv_bipush (v := 85) hx hb dX6_opens_134 (by decide) ?_
            refine lv_isub hx hb dX6_opens_136 ?_
            refine lv_bipush (v := 21) hx hb dX6_opens_137 (by decide) ?_
            refine lv_irem hx hb dX6_opens_139 (by decide) ?_
            refine va_put (ci := 6) (v := .int ((a1 - 85) - (a1 - 85) / 21 * 21)) (ty := .int) (C := RX6) (T := TX6) (N := 26) hx hb hts inlX6 tyX6 tyX6_ok nmX6 hown hE.1 hP hD hS 0 rfl rfl 19 (by decide) (hts _ wB561) (fun _ h9 => h9) rfl (by decide +kernel) rfl rfl (Nat.le_of_ble_eq_true rfl) dX6_opens_140 (fun H locs hP hD hS => ?_)
            have hQ : ∀ (xb : KS) (x0 : Int32) (x1 : Int32) (x2 : Int32) (x3 : Int32) (xn : Int32), (WM q cy (sI (sI (sI (sI xb 6 x0) 7 x1) 8 x2) 9 x3) ++ rest).set 0 (q 0, .inr (6, [.ref (q 1), .ref (q 2), .ref (q 3), .ref (q 4), .int (gI (sI (sI (sI (sI xb 6 x0) 7 x1) 8 x2) 9 x3) 0), .ref (q 5), .ref (q 6), .int (gI (sI (sI (sI (sI xb 6 x0) 7 x1) 8 x2) 9 x3) 1), .int (gI (sI (sI (sI (sI xb 6 x0) 7 x1) 8 x2) 9 x3) 2), .int (gI (sI (sI (sI (sI xb 6 x0) 7 x1) 8 x2) 9 x3) 3), .int (gI (sI (sI (sI (sI xb 6 x0) 7 x1) 8 x2) 9 x3) 4), .ref (q 7), .ref (q 8), .ref (q 9), .int (gI (sI (sI (sI (sI xb 6 x0) 7 x1) 8 x2) 9 x3) 5), .ref (q 10), .int (gI (sI (sI (sI (sI xb 6 x0) 7 x1) 8 x2) 9 x3) 6), .int (gI (sI (sI (sI (sI xb 6 x0) 7 x1) 8 x2) 9 x3) 7), .int (gI (sI (sI (sI (sI xb 6 x0) 7 x1) 8 x2) 9 x3) 8), .int (gI (sI (sI (sI (sI xb 6 x0) 7 x1) 8 x2) 9 x3) 9), .ref (q 11), .long (gL (sI (sI (sI (sI xb 6 x0) 7 x1) 8 x2) 9 x3) 0), .ref (q 12), .ref (q 13), .ref (q 14), .int (gI (sI (sI (sI (sI xb 6 x0) 7 x1) 8 x2) 9 x3) 10)].set 19 (.int xn))) = WM q cy (sI (sI (sI (sI xb 6 x0) 7 x1) 8 x2) 9 xn) ++ rest := fun _ _ _ _ _ _ => rfl
            have hP : va_P D vwCl (WM q cy (sI (sI (sI (sI u 6 0) 7 3) 8 (((a1 - 85) - (a1 - 85) / 441 * 441) / 21)) 9 ((a1 - 85) - (a1 - 85) / 21 * 21)) ++ rest) H := k_wP (hQ u 0 3 (((a1 - 85) - (a1 - 85) / 441 * 441) / 21) (-1) ((a1 - 85) - (a1 - 85) / 21 * 21)) hP
            have hD : va_D A (WM q cy (sI (sI (sI (sI u 6 0) 7 3) 8 (((a1 - 85) - (a1 - 85) / 441 * 441) / 21)) 9 ((a1 - 85) - (a1 - 85) / 21 * 21)) ++ rest) := k_wD (hQ u 0 3 (((a1 - 85) - (a1 - 85) / 441 * 441) / 21) (-1) ((a1 - 85) - (a1 - 85) / 21 * 21)) hD
            clear hQ
            obtain rfl := o_ret hf
            exact k_vret hx hb hr hP hD hS (Nat.zero_le _) (Nat.zero_le _) hlocks dX6_opens_143
          · have hf := o_in c104 hf
            refine lv_iload_n hx hb dX6_opens_107 rfl (lv_at hl 0 rfl) ?_
            refine lv_iconst (v := 1) hx hb dX6_opens_108 (by decide) ?_
            refine lv_isub hx hb dX6_opens_109 ?_
            refine lv_goto (tgt := 114) hx hb dX6_opens_110 (by decide) ?_
            refine va_put (ci := 6) (v := .int (((a1 - 85) / 441) - 1)) (ty := .int) (C := RX6) (T := TX6) (N := 26) hx hb hts inlX6 tyX6 tyX6_ok nmX6 hown hE.1 hP hD hS 0 rfl rfl 17 (by decide) (hts _ wB560) (fun _ h9 => h9) rfl (by decide +kernel) rfl rfl (Nat.le_of_ble_eq_true rfl) dX6_opens_114 (fun H locs hP hD hS => ?_)
            have hQ : ∀ (xb : KS) (x0 : Int32) (x1 : Int32) (x2 : Int32) (x3 : Int32) (xn : Int32), (WM q cy (sI (sI (sI (sI xb 6 x0) 7 x1) 8 x2) 9 x3) ++ rest).set 0 (q 0, .inr (6, [.ref (q 1), .ref (q 2), .ref (q 3), .ref (q 4), .int (gI (sI (sI (sI (sI xb 6 x0) 7 x1) 8 x2) 9 x3) 0), .ref (q 5), .ref (q 6), .int (gI (sI (sI (sI (sI xb 6 x0) 7 x1) 8 x2) 9 x3) 1), .int (gI (sI (sI (sI (sI xb 6 x0) 7 x1) 8 x2) 9 x3) 2), .int (gI (sI (sI (sI (sI xb 6 x0) 7 x1) 8 x2) 9 x3) 3), .int (gI (sI (sI (sI (sI xb 6 x0) 7 x1) 8 x2) 9 x3) 4), .ref (q 7), .ref (q 8), .ref (q 9), .int (gI (sI (sI (sI (sI xb 6 x0) 7 x1) 8 x2) 9 x3) 5), .ref (q 10), .int (gI (sI (sI (sI (sI xb 6 x0) 7 x1) 8 x2) 9 x3) 6), .int (gI (sI (sI (sI (sI xb 6 x0) 7 x1) 8 x2) 9 x3) 7), .int (gI (sI (sI (sI (sI xb 6 x0) 7 x1) 8 x2) 9 x3) 8), .int (gI (sI (sI (sI (sI xb 6 x0) 7 x1) 8 x2) 9 x3) 9), .ref (q 11), .long (gL (sI (sI (sI (sI xb 6 x0) 7 x1) 8 x2) 9 x3) 0), .ref (q 12), .ref (q 13), .ref (q 14), .int (gI (sI (sI (sI (sI xb 6 x0) 7 x1) 8 x2) 9 x3) 10)].set 17 (.int xn))) = WM q cy (sI (sI (sI (sI xb 6 x0) 7 xn) 8 x2) 9 x3) ++ rest := fun _ _ _ _ _ _ => rfl
            have hP : va_P D vwCl (WM q cy (sI (sI (sI (sI u 6 0) 7 (((a1 - 85) / 441) - 1)) 8 (-1)) 9 (-1)) ++ rest) H := k_wP (hQ u 0 (-1) (-1) (-1) (((a1 - 85) / 441) - 1)) hP
            have hD : va_D A (WM q cy (sI (sI (sI (sI u 6 0) 7 (((a1 - 85) / 441) - 1)) 8 (-1)) 9 (-1)) ++ rest) := k_wD (hQ u 0 (-1) (-1) (-1) (((a1 - 85) / 441) - 1)) hD
            clear hQ
            refine lv_aload_n hx hb dX6_opens_117 rfl (lv_at hl 1 rfl) ?_
            refine lv_iload_n hx hb dX6_opens_118 rfl (lv_at hl 2 rfl) ?_
            refine lv_bipush (v := 85) hx hb dX6_opens_119 (by decide) ?_
            refine lv_isub hx hb dX6_opens_121 ?_
            refine lv_sipush (v := 441) hx hb dX6_opens_122 (by decide) ?_
            refine lv_irem hx hb dX6_opens_125 (by decide) ?_
            refine lv_bipush (v := 21) hx hb dX6_opens_126 (by decide) ?_
            refine lv_idiv hx hb dX6_opens_128 (by decide) ?_
            refine va_put (ci := 6) (v := .int (((a1 - 85) - (a1 - 85) / 441 * 441) / 21)) (ty := .int) (C := RX6) (T := TX6) (N := 26) hx hb hts inlX6 tyX6 tyX6_ok nmX6 hown hE.1 hP hD hS 0 rfl rfl 18 (by decide) (hts _ wB559) (fun _ h9 => h9) rfl (by decide +kernel) rfl rfl (Nat.le_of_ble_eq_true rfl) dX6_opens_129 (fun H locs hP hD hS => ?_)
            have hQ : ∀ (xb : KS) (x0 : Int32) (x1 : Int32) (x2 : Int32) (x3 : Int32) (xn : Int32), (WM q cy (sI (sI (sI (sI xb 6 x0) 7 x1) 8 x2) 9 x3) ++ rest).set 0 (q 0, .inr (6, [.ref (q 1), .ref (q 2), .ref (q 3), .ref (q 4), .int (gI (sI (sI (sI (sI xb 6 x0) 7 x1) 8 x2) 9 x3) 0), .ref (q 5), .ref (q 6), .int (gI (sI (sI (sI (sI xb 6 x0) 7 x1) 8 x2) 9 x3) 1), .int (gI (sI (sI (sI (sI xb 6 x0) 7 x1) 8 x2) 9 x3) 2), .int (gI (sI (sI (sI (sI xb 6 x0) 7 x1) 8 x2) 9 x3) 3), .int (gI (sI (sI (sI (sI xb 6 x0) 7 x1) 8 x2) 9 x3) 4), .ref (q 7), .ref (q 8), .ref (q 9), .int (gI (sI (sI (sI (sI xb 6 x0) 7 x1) 8 x2) 9 x3) 5), .ref (q 10), .int (gI (sI (sI (sI (sI xb 6 x0) 7 x1) 8 x2) 9 x3) 6), .int (gI (sI (sI (sI (sI xb 6 x0) 7 x1) 8 x2) 9 x3) 7), .int (gI (sI (sI (sI (sI xb 6 x0) 7 x1) 8 x2) 9 x3) 8), .int (gI (sI (sI (sI (sI xb 6 x0) 7 x1) 8 x2) 9 x3) 9), .ref (q 11), .long (gL (sI (sI (sI (sI xb 6 x0) 7 x1) 8 x2) 9 x3) 0), .ref (q 12), .ref (q 13), .ref (q 14), .int (gI (sI (sI (sI (sI xb 6 x0) 7 x1) 8 x2) 9 x3) 10)].set 18 (.int xn))) = WM q cy (sI (sI (sI (sI xb 6 x0) 7 x1) 8 xn) 9 x3) ++ rest := fun _ _ _ _ _ _ => rfl
            have hP : va_P D vwCl (WM q cy (sI (sI (sI (sI u 6 0) 7 (((a1 - 85) / 441) - 1)) 8 (((a1 - 85) - (a1 - 85) / 441 * 441) / 21)) 9 (-1)) ++ rest) H := k_wP (hQ u 0 (((a1 - 85) / 441) - 1) (-1) (-1) (((a1 - 85) - (a1 - 85) / 441 * 441) / 21)) hP
            have hD : va_D A (WM q cy (sI (sI (sI (sI u 6 0) 7 (((a1 - 85) / 441) - 1)) 8 (((a1 - 85) - (a1 - 85) / 441 * 441) / 21)) 9 (-1)) ++ rest) := k_wD (hQ u 0 (((a1 - 85) / 441) - 1) (-1) (-1) (((a1 - 85) - (a1 - 85) / 441 * 441) / 21)) hD
            clear hQ
            refine lv_aload_n hx hb dX6_opens_132 rfl (lv_at hl 1 rfl) ?_
            refine lv_iload_n hx hb dX6_opens_133 rfl (lv_at hl 2 rfl) ?_
            refine lv_bipush (v := 85) hx hb dX6_opens_134 (by decide) ?_
            refine lv_isub hx hb dX6_opens_136 ?_
            refine lv_bipush (v := 21) hx hb dX6_opens_137 (by decide) ?_
            refine lv_irem hx hb dX6_opens_139 (by decide) ?_
            refine va_put (ci := 6) (v := .int ((a1 - 85) - (a1 - 85) / 21 * 21)) (ty := .int) (C := RX6) (T := TX6) (N := 26) hx hb hts inlX6 tyX6 tyX6_ok nmX6 hown hE.1 hP hD hS 0 rfl rfl 19 (by decide) (hts _ wB561) (fun _ h9 => h9) rfl (by decide +kernel) rfl rfl (Nat.le_of_ble_eq_true rfl) dX6_opens_140 (fun H locs hP hD hS => ?_)
            have hQ : ∀ (xb : KS) (x0 : Int32) (x1 : Int32) (x2 : Int32) (x3 : Int32) (xn : Int32), (WM q cy (sI (sI (sI (sI xb 6 x0) 7 x1) 8 x2) 9 x3) ++ rest).set 0 (q 0, .inr (6, [.ref (q 1), .ref (q 2), .ref (q 3), .ref (q 4), .int (gI (sI (sI (sI (sI xb 6 x0) 7 x1) 8 x2) 9 x3) 0), .ref (q 5), .ref (q 6), .int (gI (sI (sI (sI (sI xb 6 x0) 7 x1) 8 x2) 9 x3) 1), .int (gI (sI (sI (sI (sI xb 6 x0) 7 x1) 8 x2) 9 x3) 2), .int (gI (sI (sI (sI (sI xb 6 x0) 7 x1) 8 x2) 9 x3) 3), .int (gI (sI (sI (sI (sI xb 6 x0) 7 x1) 8 x2) 9 x3) 4), .ref (q 7), .ref (q 8), .ref (q 9), .int (gI (sI (sI (sI (sI xb 6 x0) 7 x1) 8 x2) 9 x3) 5), .ref (q 10), .int (gI (sI (sI (sI (sI xb 6 x0) 7 x1) 8 x2) 9 x3) 6), .int (gI (sI (sI (sI (sI xb 6 x0) 7 x1) 8 x2) 9 x3) 7), .int (gI (sI (sI (sI (sI xb 6 x0) 7 x1) 8 x2) 9 x3) 8), .int (gI (sI (sI (sI (sI xb 6 x0) 7 x1) 8 x2) 9 x3) 9), .ref (q 11), .long (gL (sI (sI (sI (sI xb 6 x0) 7 x1) 8 x2) 9 x3) 0), .ref (q 12), .ref (q 13), .ref (q 14), .int (gI (sI (sI (sI (sI xb 6 x0) 7 x1) 8 x2) 9 x3) 10)].set 19 (.int xn))) = WM q cy (sI (sI (sI (sI xb 6 x0) 7 x1) 8 x2) 9 xn) ++ rest := fun _ _ _ _ _ _ => rfl
            have hP : va_P D vwCl (WM q cy (sI (sI (sI (sI u 6 0) 7 (((a1 - 85) / 441) - 1)) 8 (((a1 - 85) - (a1 - 85) / 441 * 441) / 21)) 9 ((a1 - 85) - (a1 - 85) / 21 * 21)) ++ rest) H := k_wP (hQ u 0 (((a1 - 85) / 441) - 1) (((a1 - 85) - (a1 - 85) / 441 * 441) / 21) (-1) ((a1 - 85) - (a1 - 85) / 21 * 21)) hP
            have hD : va_D A (WM q cy (sI (sI (sI (sI u 6 0) 7 (((a1 - 85) / 441) - 1)) 8 (((a1 - 85) - (a1 - 85) / 441 * 441) / 21)) 9 ((a1 - 85) - (a1 - 85) / 21 * 21)) ++ rest) := k_wD (hQ u 0 (((a1 - 85) / 441) - 1) (((a1 - 85) - (a1 - 85) / 441 * 441) / 21) (-1) ((a1 - 85) - (a1 - 85) / 21 * 21)) hD
            clear hQ
            obtain rfl := o_ret hf
            exact k_vret hx hb hr hP hD hS (Nat.zero_le _) (Nat.zero_le _) hlocks dX6_opens_143
        · have hf := o_in c93 hf
          refine lv_iload_n hx hb dX6_opens_96 rfl (lv_at hl 0 rfl) ?_
          refine lv_iconst (v := 1) hx hb dX6_opens_97 (by decide) ?_
          refine lv_iadd hx hb dX6_opens_98 ?_
          refine lv_goto (tgt := 114) hx hb dX6_opens_99 (by decide) ?_
          refine va_put (ci := 6) (v := .int (((a1 - 85) / 441) + 1)) (ty := .int) (C := RX6) (T := TX6) (N := 26) hx hb hts inlX6 tyX6 tyX6_ok nmX6 hown hE.1 hP hD hS 0 rfl rfl 17 (by decide) (hts _ wB560) (fun _ h9 => h9) rfl (by decide +kernel) rfl rfl (Nat.le_of_ble_eq_true rfl) dX6_opens_114 (fun H locs hP hD hS => ?_)
          have hQ : ∀ (xb : KS) (x0 : Int32) (x1 : Int32) (x2 : Int32) (x3 : Int32) (xn : Int32), (WM q cy (sI (sI (sI (sI xb 6 x0) 7 x1) 8 x2) 9 x3) ++ rest).set 0 (q 0, .inr (6, [.ref (q 1), .ref (q 2), .ref (q 3), .ref (q 4), .int (gI (sI (sI (sI (sI xb 6 x0) 7 x1) 8 x2) 9 x3) 0), .ref (q 5), .ref (q 6), .int (gI (sI (sI (sI (sI xb 6 x0) 7 x1) 8 x2) 9 x3) 1), .int (gI (sI (sI (sI (sI xb 6 x0) 7 x1) 8 x2) 9 x3) 2), .int (gI (sI (sI (sI (sI xb 6 x0) 7 x1) 8 x2) 9 x3) 3), .int (gI (sI (sI (sI (sI xb 6 x0) 7 x1) 8 x2) 9 x3) 4), .ref (q 7), .ref (q 8), .ref (q 9), .int (gI (sI (sI (sI (sI xb 6 x0) 7 x1) 8 x2) 9 x3) 5), .ref (q 10), .int (gI (sI (sI (sI (sI xb 6 x0) 7 x1) 8 x2) 9 x3) 6), .int (gI (sI (sI (sI (sI xb 6 x0) 7 x1) 8 x2) 9 x3) 7), .int (gI (sI (sI (sI (sI xb 6 x0) 7 x1) 8 x2) 9 x3) 8), .int (gI (sI (sI (sI (sI xb 6 x0) 7 x1) 8 x2) 9 x3) 9), .ref (q 11), .long (gL (sI (sI (sI (sI xb 6 x0) 7 x1) 8 x2) 9 x3) 0), .ref (q 12), .ref (q 13), .ref (q 14), .int (gI (sI (sI (sI (sI xb 6 x0) 7 x1) 8 x2) 9 x3) 10)].set 17 (.int xn))) = WM q cy (sI (sI (sI (sI xb 6 x0) 7 xn) 8 x2) 9 x3) ++ rest := fun _ _ _ _ _ _ => rfl
          have hP : va_P D vwCl (WM q cy (sI (sI (sI (sI u 6 0) 7 (((a1 - 85) / 441) + 1)) 8 (-1)) 9 (-1)) ++ rest) H := k_wP (hQ u 0 (-1) (-1) (-1) (((a1 - 85) / 441) + 1)) hP
          have hD : va_D A (WM q cy (sI (sI (sI (sI u 6 0) 7 (((a1 - 85) / 441) + 1)) 8 (-1)) 9 (-1)) ++ rest) := k_wD (hQ u 0 (-1) (-1) (-1) (((a1 - 85) / 441) + 1)) hD
          clear hQ
          refine lv_aload_n hx hb dX6_opens_117 rfl (lv_at hl 1 rfl) ?_
          refine lv_iload_n hx hb dX6_opens_118 rfl (lv_at hl 2 rfl) ?_
          refine lv_bipush (v := 85) hx hb dX6_opens_119 (by decide) ?_
          refine lv_isub hx hb dX6_opens_121 ?_
          refine lv_sipush (v := 441) hx hb dX6_opens_122 (by decide) ?_
          refine lv_irem hx hb dX6_opens_125 (by decide) ?_
          refine lv_bipush (v := 21) hx hb dX6_opens_126 (by decide) ?_
          refine lv_idiv hx hb dX6_opens_128 (by decide) ?_
          refine va_put (ci := 6) (v := .int (((a1 - 85) - (a1 - 85) / 441 * 441) / 21)) (ty := .int) (C := RX6) (T := TX6) (N := 26) hx hb hts inlX6 tyX6 tyX6_ok nmX6 hown hE.1 hP hD hS 0 rfl rfl 18 (by decide) (hts _ wB559) (fun _ h9 => h9) rfl (by decide +kernel) rfl rfl (Nat.le_of_ble_eq_true rfl) dX6_opens_129 (fun H locs hP hD hS => ?_)
          have hQ : ∀ (xb : KS) (x0 : Int32) (x1 : Int32) (x2 : Int32) (x3 : Int32) (xn : Int32), (WM q cy (sI (sI (sI (sI xb 6 x0) 7 x1) 8 x2) 9 x3) ++ rest).set 0 (q 0, .inr (6, [.ref (q 1), .ref (q 2), .ref (q 3), .ref (q 4), .int (gI (sI (sI (sI (sI xb 6 x0) 7 x1) 8 x2) 9 x3) 0), .ref (q 5), .ref (q 6), .int (gI (sI (sI (sI (sI xb 6 x0) 7 x1) 8 x2) 9 x3) 1), .int (gI (sI (sI (sI (sI xb 6 x0) 7 x1) 8 x2) 9 x3) 2), .int (gI (sI (sI (sI (sI xb 6 x0) 7 x1) 8 x2) 9 x3) 3), .int (gI (sI (sI (sI (sI xb 6 x0) 7 x1) 8 x2) 9 x3) 4), .ref (q 7), .ref (q 8), .ref (q 9), .int (gI (sI (sI (sI (sI xb 6 x0) 7 x1) 8 x2) 9 x3) 5), .ref (q 10), .int (gI (sI (sI (sI (sI xb 6 x0) 7 x1) 8 x2) 9 x3) 6), .int (gI (sI (sI (sI (sI xb 6 x0) 7 x1) 8 x2) 9 x3) 7), .int (gI (sI (sI (sI (sI xb 6 x0) 7 x1) 8 x2) 9 x3) 8), .int (gI (sI (sI (sI (sI xb 6 x0) 7 x1) 8 x2) 9 x3) 9), .ref (q 11), .long (gL (sI (sI (sI (sI xb 6 x0) 7 x1) 8 x2) 9 x3) 0), .ref (q 12), .ref (q 13), .ref (q 14), .int (gI (sI (sI (sI (sI xb 6 x0) 7 x1) 8 x2) 9 x3) 10)].set 18 (.int xn))) = WM q cy (sI (sI (sI (sI xb 6 x0) 7 x1) 8 xn) 9 x3) ++ rest := fun _ _ _ _ _ _ => rfl
          have hP : va_P D vwCl (WM q cy (sI (sI (sI (sI u 6 0) 7 (((a1 - 85) / 441) + 1)) 8 (((a1 - 85) - (a1 - 85) / 441 * 441) / 21)) 9 (-1)) ++ rest) H := k_wP (hQ u 0 (((a1 - 85) / 441) + 1) (-1) (-1) (((a1 - 85) - (a1 - 85) / 441 * 441) / 21)) hP
          have hD : va_D A (WM q cy (sI (sI (sI (sI u 6 0) 7 (((a1 - 85) / 441) + 1)) 8 (((a1 - 85) - (a1 - 85) / 441 * 441) / 21)) 9 (-1)) ++ rest) := k_wD (hQ u 0 (((a1 - 85) / 441) + 1) (-1) (-1) (((a1 - 85) - (a1 - 85) / 441 * 441) / 21)) hD
          clear hQ
          refine lv_aload_n hx hb dX6_opens_132 rfl (lv_at hl 1 rfl) ?_
          refine lv_iload_n hx hb dX6_opens_133 rfl (lv_at hl 2 rfl) ?_
          refine lv_bipush (v := 85) hx hb dX6_opens_134 (by decide) ?_
          refine lv_isub hx hb dX6_opens_136 ?_
          refine lv_bipush (v := 21) hx hb dX6_opens_137 (by decide) ?_
          refine lv_irem hx hb dX6_opens_139 (by decide) ?_
          refine va_put (ci := 6) (v := .int ((a1 - 85) - (a1 - 85) / 21 * 21)) (ty := .int) (C := RX6) (T := TX6) (N := 26) hx hb hts inlX6 tyX6 tyX6_ok nmX6 hown hE.1 hP hD hS 0 rfl rfl 19 (by decide) (hts _ wB561) (fun _ h9 => h9) rfl (by decide +kernel) rfl rfl (Nat.le_of_ble_eq_true rfl) dX6_opens_140 (fun H locs hP hD hS => ?_)
          have hQ : ∀ (xb : KS) (x0 : Int32) (x1 : Int32) (x2 : Int32) (x3 : Int32) (xn : Int32), (WM q cy (sI (sI (sI (sI xb 6 x0) 7 x1) 8 x2) 9 x3) ++ rest).set 0 (q 0, .inr (6, [.ref (q 1), .ref (q 2), .ref (q 3), .ref (q 4), .int (gI (sI (sI (sI (sI xb 6 x0) 7 x1) 8 x2) 9 x3) 0), .ref (q 5), .ref (q 6), .int (gI (sI (sI (sI (sI xb 6 x0) 7 x1) 8 x2) 9 x3) 1), .int (gI (sI (sI (sI (sI xb 6 x0) 7 x1) 8 x2) 9 x3) 2), .int (gI (sI (sI (sI (sI xb 6 x0) 7 x1) 8 x2) 9 x3) 3), .int (gI (sI (sI (sI (sI xb 6 x0) 7 x1) 8 x2) 9 x3) 4), .ref (q 7), .ref (q 8), .ref (q 9), .int (gI (sI (sI (sI (sI xb 6 x0) 7 x1) 8 x2) 9 x3) 5), .ref (q 10), .int (gI (sI (sI (sI (sI xb 6 x0) 7 x1) 8 x2) 9 x3) 6), .int (gI (sI (sI (sI (sI xb 6 x0) 7 x1) 8 x2) 9 x3) 7), .int (gI (sI (sI (sI (sI xb 6 x0) 7 x1) 8 x2) 9 x3) 8), .int (gI (sI (sI (sI (sI xb 6 x0) 7 x1) 8 x2) 9 x3) 9), .ref (q 11), .long (gL (sI (sI (sI (sI xb 6 x0) 7 x1) 8 x2) 9 x3) 0), .ref (q 12), .ref (q 13), .ref (q 14), .int (gI (sI (sI (sI (sI xb 6 x0) 7 x1) 8 x2) 9 x3) 10)].set 19 (.int xn))) = WM q cy (sI (sI (sI (sI xb 6 x0) 7 x1) 8 x2) 9 xn) ++ rest := fun _ _ _ _ _ _ => rfl
          have hP : va_P D vwCl (WM q cy (sI (sI (sI (sI u 6 0) 7 (((a1 - 85) / 441) + 1)) 8 (((a1 - 85) - (a1 - 85) / 441 * 441) / 21)) 9 ((a1 - 85) - (a1 - 85) / 21 * 21)) ++ rest) H := k_wP (hQ u 0 (((a1 - 85) / 441) + 1) (((a1 - 85) - (a1 - 85) / 441 * 441) / 21) (-1) ((a1 - 85) - (a1 - 85) / 21 * 21)) hP
          have hD : va_D A (WM q cy (sI (sI (sI (sI u 6 0) 7 (((a1 - 85) / 441) + 1)) 8 (((a1 - 85) - (a1 - 85) / 441 * 441) / 21)) 9 ((a1 - 85) - (a1 - 85) / 21 * 21)) ++ rest) := k_wD (hQ u 0 (((a1 - 85) / 441) + 1) (((a1 - 85) - (a1 - 85) / 441 * 441) / 21) (-1) ((a1 - 85) - (a1 - 85) / 21 * 21)) hD
          clear hQ
          obtain rfl := o_ret hf
          exact k_vret hx hb hr hP hD hS (Nat.zero_le _) (Nat.zero_le _) hlocks dX6_opens_143
  · have hf := o_in c29 hf
    refine lv_aload_n hx hb dX6_opens_32 rfl (lv_at hl 0 rfl) ?_
    refine lv_iload_n hx hb dX6_opens_33 rfl (lv_at hl 1 rfl) ?_
    refine lv_iconst (v := 1) hx hb dX6_opens_34 (by decide) ?_
    refine lv_isub hx hb dX6_opens_35 ?_
    refine lv_bipush (v := 21) hx hb dX6_opens_36 (by decide) ?_
    refine lv_idiv hx hb dX6_opens_38 (by decide) ?_
    refine va_put (ci := 6) (v := .int ((a1 - 1) / 21)) (ty := .int) (C := RX6) (T := TX6) (N := 26) hx hb hts inlX6 tyX6 tyX6_ok nmX6 hown hE.1 hP hD hS 0 rfl rfl 16 (by decide) (hts _ wB558) (fun _ h9 => h9) rfl (by decide +kernel) rfl rfl (Nat.le_of_ble_eq_true rfl) dX6_opens_39 (fun H locs hP hD hS => ?_)
    have hQ : ∀ (xb : KS) (x0 : Int32) (x1 : Int32) (x2 : Int32) (x3 : Int32) (xn : Int32), (WM q cy (sI (sI (sI (sI xb 6 x0) 7 x1) 8 x2) 9 x3) ++ rest).set 0 (q 0, .inr (6, [.ref (q 1), .ref (q 2), .ref (q 3), .ref (q 4), .int (gI (sI (sI (sI (sI xb 6 x0) 7 x1) 8 x2) 9 x3) 0), .ref (q 5), .ref (q 6), .int (gI (sI (sI (sI (sI xb 6 x0) 7 x1) 8 x2) 9 x3) 1), .int (gI (sI (sI (sI (sI xb 6 x0) 7 x1) 8 x2) 9 x3) 2), .int (gI (sI (sI (sI (sI xb 6 x0) 7 x1) 8 x2) 9 x3) 3), .int (gI (sI (sI (sI (sI xb 6 x0) 7 x1) 8 x2) 9 x3) 4), .ref (q 7), .ref (q 8), .ref (q 9), .int (gI (sI (sI (sI (sI xb 6 x0) 7 x1) 8 x2) 9 x3) 5), .ref (q 10), .int (gI (sI (sI (sI (sI xb 6 x0) 7 x1) 8 x2) 9 x3) 6), .int (gI (sI (sI (sI (sI xb 6 x0) 7 x1) 8 x2) 9 x3) 7), .int (gI (sI (sI (sI (sI xb 6 x0) 7 x1) 8 x2) 9 x3) 8), .int (gI (sI (sI (sI (sI xb 6 x0) 7 x1) 8 x2) 9 x3) 9), .ref (q 11), .long (gL (sI (sI (sI (sI xb 6 x0) 7 x1) 8 x2) 9 x3) 0), .ref (q 12), .ref (q 13), .ref (q 14), .int (gI (sI (sI (sI (sI xb 6 x0) 7 x1) 8 x2) 9 x3) 10)].set 16 (.int xn))) = WM q cy (sI (sI (sI (sI xb 6 xn) 7 x1) 8 x2) 9 x3) ++ rest := fun _ _ _ _ _ _ => rfl
    have hP : va_P D vwCl (WM q cy (sI (sI (sI (sI u 6 ((a1 - 1) / 21)) 7 (-1)) 8 (-1)) 9 (-1)) ++ rest) H := k_wP (hQ u (-1) (-1) (-1) (-1) ((a1 - 1) / 21)) hP
    have hD : va_D A (WM q cy (sI (sI (sI (sI u 6 ((a1 - 1) / 21)) 7 (-1)) 8 (-1)) 9 (-1)) ++ rest) := k_wD (hQ u (-1) (-1) (-1) (-1) ((a1 - 1) / 21)) hD
    clear hQ
    refine lv_aload_n hx hb dX6_opens_42 rfl (lv_at hl 0 rfl) ?_
    refine lv_iload_n hx hb dX6_opens_43 rfl (lv_at hl 1 rfl) ?_
    refine lv_iconst (v := 1) hx hb dX6_opens_44 (by decide) ?_
    refine lv_isub hx hb dX6_opens_45 ?_
    refine lv_bipush (v := 21) hx hb dX6_opens_46 (by decide) ?_
    refine lv_irem hx hb dX6_opens_48 (by decide) ?_
    refine va_put (ci := 6) (v := .int ((a1 - 1) - (a1 - 1) / 21 * 21)) (ty := .int) (C := RX6) (T := TX6) (N := 26) hx hb hts inlX6 tyX6 tyX6_ok nmX6 hown hE.1 hP hD hS 0 rfl rfl 18 (by decide) (hts _ wB559) (fun _ h9 => h9) rfl (by decide +kernel) rfl rfl (Nat.le_of_ble_eq_true rfl) dX6_opens_49 (fun H locs hP hD hS => ?_)
    have hQ : ∀ (xb : KS) (x0 : Int32) (x1 : Int32) (x2 : Int32) (x3 : Int32) (xn : Int32), (WM q cy (sI (sI (sI (sI xb 6 x0) 7 x1) 8 x2) 9 x3) ++ rest).set 0 (q 0, .inr (6, [.ref (q 1), .ref (q 2), .ref (q 3), .ref (q 4), .int (gI (sI (sI (sI (sI xb 6 x0) 7 x1) 8 x2) 9 x3) 0), .ref (q 5), .ref (q 6), .int (gI (sI (sI (sI (sI xb 6 x0) 7 x1) 8 x2) 9 x3) 1), .int (gI (sI (sI (sI (sI xb 6 x0) 7 x1) 8 x2) 9 x3) 2), .int (gI (sI (sI (sI (sI xb 6 x0) 7 x1) 8 x2) 9 x3) 3), .int (gI (sI (sI (sI (sI xb 6 x0) 7 x1) 8 x2) 9 x3) 4), .ref (q 7), .ref (q 8), .ref (q 9), .int (gI (sI (sI (sI (sI xb 6 x0) 7 x1) 8 x2) 9 x3) 5), .ref (q 10), .int (gI (sI (sI (sI (sI xb 6 x0) 7 x1) 8 x2) 9 x3) 6), .int (gI (sI (sI (sI (sI xb 6 x0) 7 x1) 8 x2) 9 x3) 7), .int (gI (sI (sI (sI (sI xb 6 x0) 7 x1) 8 x2) 9 x3) 8), .int (gI (sI (sI (sI (sI xb 6 x0) 7 x1) 8 x2) 9 x3) 9), .ref (q 11), .long (gL (sI (sI (sI (sI xb 6 x0) 7 x1) 8 x2) 9 x3) 0), .ref (q 12), .ref (q 13), .ref (q 14), .int (gI (sI (sI (sI (sI xb 6 x0) 7 x1) 8 x2) 9 x3) 10)].set 18 (.int xn))) = WM q cy (sI (sI (sI (sI xb 6 x0) 7 x1) 8 xn) 9 x3) ++ rest := fun _ _ _ _ _ _ => rfl
    have hP : va_P D vwCl (WM q cy (sI (sI (sI (sI u 6 ((a1 - 1) / 21)) 7 (-1)) 8 ((a1 - 1) - (a1 - 1) / 21 * 21)) 9 (-1)) ++ rest) H := k_wP (hQ u ((a1 - 1) / 21) (-1) (-1) (-1) ((a1 - 1) - (a1 - 1) / 21 * 21)) hP
    have hD : va_D A (WM q cy (sI (sI (sI (sI u 6 ((a1 - 1) / 21)) 7 (-1)) 8 ((a1 - 1) - (a1 - 1) / 21 * 21)) 9 (-1)) ++ rest) := k_wD (hQ u ((a1 - 1) / 21) (-1) (-1) (-1) ((a1 - 1) - (a1 - 1) / 21 * 21)) hD
    clear hQ
    refine lv_iload_n hx hb dX6_opens_52 rfl (lv_at hl 1 rfl) ?_
    refine lv_bipush (v := 84) hx hb dX6_opens_53 (by decide) ?_
    refine lv_icmp_le (tgt := 143) hx hb dX6_opens_55 (by decide) (fun c55 => ?_) (fun c55 => ?_)
    · have hf := o_ip c55 hf
      obtain rfl := o_ret hf
      exact k_vret hx hb hr hP hD hS (Nat.zero_le _) (Nat.zero_le _) hlocks dX6_opens_143
    · have hf := o_in c55 hf
      refine lv_iload_n hx hb dX6_opens_58 rfl (lv_at hl 1 rfl) ?_
      refine lv_bipush (v := 85) hx hb dX6_opens_59 (by decide) ?_
      refine lv_isub hx hb dX6_opens_61 ?_
      refine lv_sipush (v := 441) hx hb dX6_opens_62 (by decide) ?_
      refine lv_idiv hx hb dX6_opens_65 (by decide) ?_
      refine lv_istore_n (lv' := [(2, .int ((a1 - 85) / 441)), (0, .ref (q 0)), (1, .int a1)]) hx hb dX6_opens_66 rfl hl (by decide) rfl (fun ls hl => ?_)
      refine lv_aload_n hx hb dX6_opens_67 rfl (lv_at hl 1 rfl) ?_
      refine lv_iload_n hx hb dX6_opens_68 rfl (lv_at hl 0 rfl) ?_
      refine lv_iconst (v := 3) hx hb dX6_opens_69 (by decide) ?_
      refine lv_icmp_ge (tgt := 77) hx hb dX6_opens_70 (by decide) (fun c70 => ?_) (fun c70 => ?_)
      · have hf := o_ip c70 hf
        refine lv_iload_n hx hb dX6_opens_77 rfl (lv_at hl 0 rfl) ?_
        refine lv_iconst (v := 5) hx hb dX6_opens_78 (by decide) ?_
        refine lv_icmp_ge (tgt := 86) hx hb dX6_opens_79 (by decide) (fun c79 => ?_) (fun c79 => ?_)
        · have hf := o_ip c79 hf
          refine lv_iconst (v := 2) hx hb dX6_opens_86 (by decide) ?_
          refine va_put (ci := 6) (v := .int 2) (ty := .int) (C := RX6) (T := TX6) (N := 26) hx hb hts inlX6 tyX6 tyX6_ok nmX6 hown hE.1 hP hD hS 0 rfl rfl 16 (by decide) (hts _ wB558) (fun _ h9 => h9) rfl (by decide +kernel) rfl rfl (Nat.le_of_ble_eq_true rfl) dX6_opens_87 (fun H locs hP hD hS => ?_)
          have hQ : ∀ (xb : KS) (x0 : Int32) (x1 : Int32) (x2 : Int32) (x3 : Int32) (xn : Int32), (WM q cy (sI (sI (sI (sI xb 6 x0) 7 x1) 8 x2) 9 x3) ++ rest).set 0 (q 0, .inr (6, [.ref (q 1), .ref (q 2), .ref (q 3), .ref (q 4), .int (gI (sI (sI (sI (sI xb 6 x0) 7 x1) 8 x2) 9 x3) 0), .ref (q 5), .ref (q 6), .int (gI (sI (sI (sI (sI xb 6 x0) 7 x1) 8 x2) 9 x3) 1), .int (gI (sI (sI (sI (sI xb 6 x0) 7 x1) 8 x2) 9 x3) 2), .int (gI (sI (sI (sI (sI xb 6 x0) 7 x1) 8 x2) 9 x3) 3), .int (gI (sI (sI (sI (sI xb 6 x0) 7 x1) 8 x2) 9 x3) 4), .ref (q 7), .ref (q 8), .ref (q 9), .int (gI (sI (sI (sI (sI xb 6 x0) 7 x1) 8 x2) 9 x3) 5), .ref (q 10), .int (gI (sI (sI (sI (sI xb 6 x0) 7 x1) 8 x2) 9 x3) 6), .int (gI (sI (sI (sI (sI xb 6 x0) 7 x1) 8 x2) 9 x3) 7), .int (gI (sI (sI (sI (sI xb 6 x0) 7 x1) 8 x2) 9 x3) 8), .int (gI (sI (sI (sI (sI xb 6 x0) 7 x1) 8 x2) 9 x3) 9), .ref (q 11), .long (gL (sI (sI (sI (sI xb 6 x0) 7 x1) 8 x2) 9 x3) 0), .ref (q 12), .ref (q 13), .ref (q 14), .int (gI (sI (sI (sI (sI xb 6 x0) 7 x1) 8 x2) 9 x3) 10)].set 16 (.int xn))) = WM q cy (sI (sI (sI (sI xb 6 xn) 7 x1) 8 x2) 9 x3) ++ rest := fun _ _ _ _ _ _ => rfl
          have hP : va_P D vwCl (WM q cy (sI (sI (sI (sI u 6 2) 7 (-1)) 8 ((a1 - 1) - (a1 - 1) / 21 * 21)) 9 (-1)) ++ rest) H := k_wP (hQ u ((a1 - 1) / 21) (-1) ((a1 - 1) - (a1 - 1) / 21 * 21) (-1) 2) hP
          have hD : va_D A (WM q cy (sI (sI (sI (sI u 6 2) 7 (-1)) 8 ((a1 - 1) - (a1 - 1) / 21 * 21)) 9 (-1)) ++ rest) := k_wD (hQ u ((a1 - 1) / 21) (-1) ((a1 - 1) - (a1 - 1) / 21 * 21) (-1) 2) hD
          clear hQ
          refine lv_aload_n hx hb dX6_opens_90 rfl (lv_at hl 1 rfl) ?_
          refine lv_iload_n hx hb dX6_opens_91 rfl (lv_at hl 0 rfl) ?_
          refine lv_iconst (v := 3) hx hb dX6_opens_92 (by decide) ?_
          refine lv_icmp_ge (tgt := 102) hx hb dX6_opens_93 (by decide) (fun c93 => ?_) (fun c93 => ?_)
          · have hf := o_ip c93 hf
            refine lv_iload_n hx hb dX6_opens_102 rfl (lv_at hl 0 rfl) ?_
            refine lv_iconst (v := 5) hx hb dX6_opens_103 (by decide) ?_
            refine lv_icmp_ge (tgt := 113) hx hb dX6_opens_104 (by decide) (fun c104 => ?_) (fun c104 => ?_)
            · have hf := o_ip c104 hf
              refine lv_iconst (v := 3) hx hb dX6_opens_113 (by decide) ?_
              refine va_put (ci := 6) (v := .int 3) (ty := .int) (C := RX6) (T := TX6) (N := 26) hx hb hts inlX6 tyX6 tyX6_ok nmX6 hown hE.1 hP hD hS 0 rfl rfl 17 (by decide) (hts _ wB560) (fun _ h9 => h9) rfl (by decide +kernel) rfl rfl (Nat.le_of_ble_eq_true rfl) dX6_opens_114 (fun H locs hP hD hS => ?_)
              have hQ : ∀ (xb : KS) (x0 : Int32) (x1 : Int32) (x2 : Int32) (x3 : Int32) (xn : Int32), (WM q cy (sI (sI (sI (sI xb 6 x0) 7 x1) 8 x2) 9 x3) ++ rest).set 0 (q 0, .inr (6, [.ref (q 1), .ref (q 2), .ref (q 3), .ref (q 4), .int (gI (sI (sI (sI (sI xb 6 x0) 7 x1) 8 x2) 9 x3) 0), .ref (q 5), .ref (q 6), .int (gI (sI (sI (sI (sI xb 6 x0) 7 x1) 8 x2) 9 x3) 1), .int (gI (sI (sI (sI (sI xb 6 x0) 7 x1) 8 x2) 9 x3) 2), .int (gI (sI (sI (sI (sI xb 6 x0) 7 x1) 8 x2) 9 x3) 3), .int (gI (sI (sI (sI (sI xb 6 x0) 7 x1) 8 x2) 9 x3) 4), .ref (q 7), .ref (q 8), .ref (q 9), .int (gI (sI (sI (sI (sI xb 6 x0) 7 x1) 8 x2) 9 x3) 5), .ref (q 10), .int (gI (sI (sI (sI (sI xb 6 x0) 7 x1) 8 x2) 9 x3) 6), .int (gI (sI (sI (sI (sI xb 6 x0) 7 x1) 8 x2) 9 x3) 7), .int (gI (sI (sI (sI (sI xb 6 x0) 7 x1) 8 x2) 9 x3) 8), .int (gI (sI (sI (sI (sI xb 6 x0) 7 x1) 8 x2) 9 x3) 9), .ref (q 11), .long (gL (sI (sI (sI (sI xb 6 x0) 7 x1) 8 x2) 9 x3) 0), .ref (q 12), .ref (q 13), .ref (q 14), .int (gI (sI (sI (sI (sI xb 6 x0) 7 x1) 8 x2) 9 x3) 10)].set 17 (.int xn))) = WM q cy (sI (sI (sI (sI xb 6 x0) 7 xn) 8 x2) 9 x3) ++ rest := fun _ _ _ _ _ _ => rfl
              have hP : va_P D vwCl (WM q cy (sI (sI (sI (sI u 6 2) 7 3) 8 ((a1 - 1) - (a1 - 1) / 21 * 21)) 9 (-1)) ++ rest) H := k_wP (hQ u 2 (-1) ((a1 - 1) - (a1 - 1) / 21 * 21) (-1) 3) hP
              have hD : va_D A (WM q cy (sI (sI (sI (sI u 6 2) 7 3) 8 ((a1 - 1) - (a1 - 1) / 21 * 21)) 9 (-1)) ++ rest) := k_wD (hQ u 2 (-1) ((a1 - 1) - (a1 - 1) / 21 * 21) (-1) 3) hD
              clear hQ
              refine lv_aload_n hx hb dX6_opens_117 rfl (lv_at hl 1 rfl) ?_
              refine lv_iload_n hx hb dX6_opens_118 rfl (lv_at hl 2 rfl) ?_
              refine lv_bipush (v := 85) hx hb dX6_opens_119 (by decide) ?_
              refine lv_isub hx hb dX6_opens_121 ?_
              refine lv_sipush (v := 441) hx hb dX6_opens_122 (by decide) ?_
              refine lv_irem hx hb dX6_opens_125 (by decide) ?_
              refine lv_bipush (v := 21) hx hb dX6_opens_126 (by decide) ?_
              refine lv_idiv hx hb dX6_opens_128 (by decide) ?_
              refine va_put (ci := 6) (v := .int (((a1 - 85) - (a1 - 85) / 441 * 441) / 21)) (ty := .int) (C := RX6) (T := TX6) (N := 26) hx hb hts inlX6 tyX6 tyX6_ok nmX6 hown hE.1 hP hD hS 0 rfl rfl 18 (by decide) (hts _ wB559) (fun _ h9 => h9) rfl (by decide +kernel) rfl rfl (Nat.le_of_ble_eq_true rfl) dX6_opens_129 (fun H locs hP hD hS => ?_)
              have hQ : ∀ (xb : KS) (x0 : Int32) (x1 : Int32) (x2 : Int32) (x3 : Int32) (xn : Int32), (WM q cy (sI (sI (sI (sI xb 6 x0) 7 x1) 8 x2) 9 x3) ++ rest).set 0 (q 0, .inr (6, [.ref (q 1), .ref (q 2), .ref (q 3), .ref (q 4), .int (gI (sI (sI (sI (sI xb 6 x0) 7 x1) 8 x2) 9 x3) 0), .ref (q 5), .ref (q 6), .int (gI (sI (sI (sI (sI xb 6 x0) 7 x1) 8 x2) 9 x3) 1), .int (gI (sI (sI (sI (sI xb 6 x0) 7 x1) 8 x2) 9 x3) 2), .int (gI (sI (sI (sI (sI xb 6 x0) 7 x1) 8 x2) 9 x3) 3), .int (gI (sI (sI (sI (sI xb 6 x0) 7 x1) 8 x2) 9 x3) 4), .ref (q 7), .ref (q 8), .ref (q 9), .int (gI (sI (sI (sI (sI xb 6 x0) 7 x1) 8 x2) 9 x3) 5), .ref (q 10), .int (gI (sI (sI (sI (sI xb 6 x0) 7 x1) 8 x2) 9 x3) 6), .int (gI (sI (sI (sI (sI xb 6 x0) 7 x1) 8 x2) 9 x3) 7), .int (gI (sI (sI (sI (sI xb 6 x0) 7 x1) 8 x2) 9 x3) 8), .int (gI (sI (sI (sI (sI xb 6 x0) 7 x1) 8 x2) 9 x3) 9), .ref (q 11), .long (gL (sI (sI (sI (sI xb 6 x0) 7 x1) 8 x2) 9 x3) 0), .ref (q 12), .ref (q 13), .ref (q 14), .int (gI (sI (sI (sI (sI xb 6 x0) 7 x1) 8 x2) 9 x3) 10)].set 18 (.int xn))) = WM q cy (sI (sI (sI (sI xb 6 x0) 7 x1) 8 xn) 9 x3) ++ rest := fun _ _ _ _ _ _ => rfl
              have hP : va_P D vwCl (WM q cy (sI (sI (sI (sI u 6 2) 7 3) 8 (((a1 - 85) - (a1 - 85) / 441 * 441) / 21)) 9 (-1)) ++ rest) H := k_wP (hQ u 2 3 ((a1 - 1) - (a1 - 1) / 21 * 21) (-1) (((a1 - 85) - (a1 - 85) / 441 * 441) / 21)) hP
              have hD : va_D A (WM q cy (sI (sI (sI (sI u 6 2) 7 3) 8 (((a1 - 85) - (a1 - 85) / 441 * 441) / 21)) 9 (-1)) ++ rest) := k_wD (hQ u 2 3 ((a1 - 1) - (a1 - 1) / 21 * 21) (-1) (((a1 - 85) - (a1 - 85) / 441 * 441) / 21)) hD
              clear hQ
              refine lv_aload_n hx hb dX6_opens_132 rfl (lv_at hl 1 rfl) ?_
              refine lv_iload_n hx hb dX6_opens_133 rfl (lv_at hl 2 rfl) ?_
              refine lv_bipush (v := 85) hx hb dX6_opens_134 (by decide) ?_
              refine lv_isub hx hb dX6_opens_136 ?_
              refine lv_bipush (v := 21) hx hb dX6_opens_137 (by decide) ?_
              refine lv_irem hx hb dX6_opens_139 (by decide) ?_
              refine va_put (ci := 6) (v := .int ((a1 - 85) - (a1 - 85) / 21 * 21)) (ty := .int) (C := RX6) (T := TX6) (N := 26) hx hb hts inlX6 tyX6 tyX6_ok nmX6 hown hE.1 hP hD hS 0 rfl rfl 19 (by decide) (hts _ wB561) (fun _ h9 => h9) rfl (by decide +kernel) rfl rfl (Nat.le_of_ble_eq_true rfl) dX6_opens_140 (fun H locs hP hD hS => ?_)
              have hQ : ∀ (xb : KS) (x0 : Int32) (x1 : Int32) (x2 : Int32) (x3 : Int32) (xn : Int32), (WM q cy (sI (sI (sI (sI xb 6 x0) 7 x1) 8 x2) 9 x3) ++ rest).set 0 (q 0, .inr (6, [.ref (q 1), .ref (q 2), .ref (q 3), .ref (q 4), .int (gI (sI (sI (sI (sI xb 6 x0) 7 x1) 8 x2) 9 x3) 0), .ref (q 5), .ref (q 6), .int (gI (sI (sI (sI (sI xb 6 x0) 7 x1) 8 x2) 9 x3) 1), .int (gI (sI (sI (sI (sI xb 6 x0) 7 x1) 8 x2) 9 x3) 2), .int (gI (sI (sI (sI (sI xb 6 x0) 7 x1) 8 x2) 9 x3) 3), .int (gI (sI (sI (sI (sI xb 6 x0) 7 x1) 8 x2) 9 x3) 4), .ref (q 7), .ref (q 8), .ref (q 9), .int (gI (sI (sI (sI (sI xb 6 x0) 7 x1) 8 x2) 9 x3) 5), .ref (q 10), .int (gI (sI (sI (sI (sI xb 6 x0) 7 x1) 8 x2) 9 x3) 6), .int (gI (sI (sI (sI (sI xb 6 x0) 7 x1) 8 x2) 9 x3) 7), .int (gI (sI (sI (sI (sI xb 6 x0) 7 x1) 8 x2) 9 x3) 8), .int (gI (sI (sI (sI (sI xb 6 x0) 7 x1) 8 x2) 9 x3) 9), .ref (q 11), .long (gL (sI (sI (sI (sI xb 6 x0) 7 x1) 8 x2) 9 x3) 0), .ref (q 12), .ref (q 13), .ref (q 14), .int (gI (sI (sI (sI (sI xb 6 x0) 7 x1) 8 x2) 9 x3) 10)].set 19 (.int xn))) = WM q cy (sI (sI (sI (sI xb 6 x0) 7 x1) 8 x2) 9 xn) ++ rest := fun _ _ _ _ _ _ => rfl
              have hP : va_P D vwCl (WM q cy (sI (sI (sI (sI u 6 2) 7 3) 8 (((a1 - 85) - (a1 - 85) / 441 * 441) / 21)) 9 ((a1 - 85) - (a1 - 85) / 21 * 21)) ++ rest) H := k_wP (hQ u 2 3 (((a1 - 85) - (a1 - 85) / 441 * 441) / 21) (-1) ((a1 - 85) - (a1 - 85) / 21 * 21)) hP
              have hD : va_D A (WM q cy (sI (sI (sI (sI u 6 2) 7 3) 8 (((a1 - 85) - (a1 - 85) / 441 * 441) / 21)) 9 ((a1 - 85) - (a1 - 85) / 21 * 21)) ++ rest) := k_wD (hQ u 2 3 (((a1 - 85) - (a1 - 85) / 441 * 441) / 21) (-1) ((a1 - 85) - (a1 - 85) / 21 * 21)) hD
              clear hQ
              obtain rfl := o_ret hf
              exact k_vret hx hb hr hP hD hS (Nat.zero_le _) (Nat.zero_le _) hlocks dX6_opens_143
            · have hf := o_in c104 hf
              refine lv_iload_n hx hb dX6_opens_107 rfl (lv_at hl 0 rfl) ?_
              refine lv_iconst (v := 1) hx hb dX6_opens_108 (by decide) ?_
              refine lv_isub hx hb dX6_opens_109 ?_
              refine lv_goto (tgt := 114) hx hb dX6_opens_110 (by decide) ?_
              refine va_put (ci := 6) (v := .int (((a1 - 85) / 441) - 1)) (ty := .int) (C := RX6) (T := TX6) (N := 26) hx hb hts inlX6 tyX6 tyX6_ok nmX6 hown hE.1 hP hD hS 0 rfl rfl 17 (by decide) (hts _ wB560) (fun _ h9 => h9) rfl (by decide +kernel) rfl rfl (Nat.le_of_ble_eq_true rfl) dX6_opens_114 (fun H locs hP hD hS => ?_)
              have hQ : ∀ (xb : KS) (x0 : Int32) (x1 : Int32) (x2 : Int32) (x3 : Int32) (xn : Int32), (WM q cy (sI (sI (sI (sI xb 6 x0) 7 x1) 8 x2) 9 x3) ++ rest).set 0 (q 0, .inr (6, [.ref (q 1), .ref (q 2), .ref (q 3), .ref (q 4), .int (gI (sI (sI (sI (sI xb 6 x0) 7 x1) 8 x2) 9 x3) 0), .ref (q 5), .ref (q 6), .int (gI (sI (sI (sI (sI xb 6 x0) 7 x1) 8 x2) 9 x3) 1), .int (gI (sI (sI (sI (sI xb 6 x0) 7 x1) 8 x2) 9 x3) 2), .int (gI (sI (sI (sI (sI xb 6 x0) 7 x1) 8 x2) 9 x3) 3), .int (gI (sI (sI (sI (sI xb 6 x0) 7 x1) 8 x2) 9 x3) 4), .ref (q 7), .ref (q 8), .ref (q 9), .int (gI (sI (sI (sI (sI xb 6 x0) 7 x1) 8 x2) 9 x3) 5), .ref (q 10), .int (gI (sI (sI (sI (sI xb 6 x0) 7 x1) 8 x2) 9 x3) 6), .int (gI (sI (sI (sI (sI xb 6 x0) 7 x1) 8 x2) 9 x3) 7), .int (gI (sI (sI (sI (sI xb 6 x0) 7 x1) 8 x2) 9 x3) 8), .int (gI (sI (sI (sI (sI xb 6 x0) 7 x1) 8 x2) 9 x3) 9), .ref (q 11), .long (gL (sI (sI (sI (sI xb 6 x0) 7 x1) 8 x2) 9 x3) 0), .ref (q 12), .ref (q 13), .ref (q 14), .int (gI (sI (sI (sI (sI xb 6 x0) 7 x1) 8 x2) 9 x3) 10)].set 17 (.int xn))) = WM q cy (sI (sI (sI (sI xb 6 x0) 7 xn) 8 x2) 9 x3) ++ rest := fun _ _ _ _ _ _ => rfl
              have hP : va_P D vwCl (WM q cy (sI (sI (sI (sI u 6 2) 7 (((a1 - 85) / 441) - 1)) 8 ((a1 - 1) - (a1 - 1) / 21 * 21)) 9 (-1)) ++ rest) H := k_wP (hQ u 2 (-1) ((a1 - 1) - (a1 - 1) / 21 * 21) (-1) (((a1 - 85) / 441) - 1)) hP
              have hD : va_D A (WM q cy (sI (sI (sI (sI u 6 2) 7 (((a1 - 85) / 441) - 1)) 8 ((a1 - 1) - (a1 - 1) / 21 * 21)) 9 (-1)) ++ rest) := k_wD (hQ u 2 (-1) ((a1 - 1) - (a1 - 1) / 21 * 21) (-1) (((a1 - 85) / 441) - 1)) hD
              clear hQ
              refine lv_aload_n hx hb dX6_opens_117 rfl (lv_at hl 1 rfl) ?_
              refine lv_iload_n hx hb dX6_opens_118 rfl (lv_at hl 2 rfl) ?_
              refine lv_bipush (v := 85) hx hb dX6_opens_119 (by decide) ?_
              refine lv_isub hx hb dX6_opens_121 ?_
              refine lv_sipush (v := 441) hx hb dX6_opens_122 (by decide) ?_
              refine lv_irem hx hb dX6_opens_125 (by decide) ?_
              refine lv_bipush (v := 21) hx hb dX6_opens_126 (by decide) ?_
              refine lv_idiv hx hb dX6_opens_128 (by decide) ?_
              refine va_put (ci := 6) (v := .int (((a1 - 85) - (a1 - 85) / 441 * 441) / 21)) (ty := .int) (C := RX6) (T := TX6) (N := 26) hx hb hts inlX6 tyX6 tyX6_ok nmX6 hown hE.1 hP hD hS 0 rfl rfl 18 (by decide) (hts _ wB559) (fun _ h9 => h9) rfl (by decide +kernel) rfl rfl (Nat.le_of_ble_eq_true rfl) dX6_opens_129 (fun H locs hP hD hS => ?_)
              have hQ : ∀ (xb : KS) (x0 : Int32) (x1 : Int32) (x2 : Int32) (x3 : Int32) (xn : Int32), (WM q cy (sI (sI (sI (sI xb 6 x0) 7 x1) 8 x2) 9 x3) ++ rest).set 0 (q 0, .inr (6, [.ref (q 1), .ref (q 2), .ref (q 3), .ref (q 4), .int (gI (sI (sI (sI (sI xb 6 x0) 7 x1) 8 x2) 9 x3) 0), .ref (q 5), .ref (q 6), .int (gI (sI (sI (sI (sI xb 6 x0) 7 x1) 8 x2) 9 x3) 1), .int (gI (sI (sI (sI (sI xb 6 x0) 7 x1) 8 x2) 9 x3) 2), .int (gI (sI (sI (sI (sI xb 6 x0) 7 x1) 8 x2) 9 x3) 3), .int (gI (sI (sI (sI (sI xb 6 x0) 7 x1) 8 x2) 9 x3) 4), .ref (q 7), .ref (q 8), .ref (q 9), .int (gI (sI (sI (sI (sI xb 6 x0) 7 x1) 8 x2) 9 x3) 5), .ref (q 10), .int (gI (sI (sI (sI (sI xb 6 x0) 7 x1) 8 x2) 9 x3) 6), .int (gI (sI (sI (sI (sI xb 6 x0) 7 x1) 8 x2) 9 x3) 7), .int (gI (sI (sI (sI (sI xb 6 x0) 7 x1) 8 x2) 9 x3) 8), .int (gI (sI (sI (sI (sI xb 6 x0) 7 x1) 8 x2) 9 x3) 9), .ref (q 11), .long (gL (sI (sI (sI (sI xb 6 x0) 7 x1) 8 x2) 9 x3) 0), .ref (q 12), .ref (q 13), .ref (q 14), .int (gI (sI (sI (sI (sI xb 6 x0) 7 x1) 8 x2) 9 x3) 10)].set 18 (.int xn))) = WM q cy (sI (sI (sI (sI xb 6 x0) 7 x1) 8 xn) 9 x3) ++ rest := fun _ _ _ _ _ _ => rfl
              have hP : va_P D vwCl (WM q cy (sI (sI (sI (sI u 6 2) 7 (((a1 - 85) / 441) - 1)) 8 (((a1 - 85) - (a1 - 85) / 441 * 441) / 21)) 9 (-1)) ++ rest) H := k_wP (hQ u 2 (((a1 - 85) / 441) - 1) ((a1 - 1) - (a1 - 1) / 21 * 21) (-1) (((a1 - 85) - (a1 - 85) / 441 * 441) / 21)) hP
              have hD : va_D A (WM q cy (sI (sI (sI (sI u 6 2) 7 (((a1 - 85) / 441) - 1)) 8 (((a1 - 85) - (a1 - 85) / 441 * 441) / 21)) 9 (-1)) ++ rest) := k_wD (hQ u 2 (((a1 - 85) / 441) - 1) ((a1 - 1) - (a1 - 1) / 21 * 21) (-1) (((a1 - 85) - (a1 - 85) / 441 * 441) / 21)) hD
              clear hQ
              refine lv_aload_n hx hb dX6_opens_132 rfl (lv_at hl 1 rfl) ?_
              refine lv_iload_n hx hb dX6_opens_133 rfl (lv_at hl 2 rfl) ?_
              refine lv_bipush (v := 85) hx hb dX6_opens_134 (by decide) ?_
              refine lv_isub hx hb dX6_opens_136 ?_
              refine lv_bipush (v := 21) hx hb dX6_opens_137 (by decide) ?_
              refine lv_irem hx hb dX6_opens_139 (by decide) ?_
              refine va_put (ci := 6) (v := .int ((a1 - 85) - (a1 - 85) / 21 * 21)) (ty := .int) (C := RX6) (T := TX6) (N := 26) hx hb hts inlX6 tyX6 tyX6_ok nmX6 hown hE.1 hP hD hS 0 rfl rfl 19 (by decide) (hts _ wB561) (fun _ h9 => h9) rfl (by decide +kernel) rfl rfl (Nat.le_of_ble_eq_true rfl) dX6_opens_140 (fun H locs hP hD hS => ?_)
              have hQ : ∀ (xb : KS) (x0 : Int32) (x1 : Int32) (x2 : Int32) (x3 : Int32) (xn : Int32), (WM q cy (sI (sI (sI (sI xb 6 x0) 7 x1) 8 x2) 9 x3) ++ rest).set 0 (q 0, .inr (6, [.ref (q 1), .ref (q 2), .ref (q 3), .ref (q 4), .int (gI (sI (sI (sI (sI xb 6 x0) 7 x1) 8 x2) 9 x3) 0), .ref (q 5), .ref (q 6), .int (gI (sI (sI (sI (sI xb 6 x0) 7 x1) 8 x2) 9 x3) 1), .int (gI (sI (sI (sI (sI xb 6 x0) 7 x1) 8 x2) 9 x3) 2), .int (gI (sI (sI (sI (sI xb 6 x0) 7 x1) 8 x2) 9 x3) 3), .int (gI (sI (sI (sI (sI xb 6 x0) 7 x1) 8 x2) 9 x3) 4), .ref (q 7), .ref (q 8), .ref (q 9), .int (gI (sI (sI (sI (sI xb 6 x0) 7 x1) 8 x2) 9 x3) 5), .ref (q 10), .int (gI (sI (sI (sI (sI xb 6 x0) 7 x1) 8 x2) 9 x3) 6), .int (gI (sI (sI (sI (sI xb 6 x0) 7 x1) 8 x2) 9 x3) 7), .int (gI (sI (sI (sI (sI xb 6 x0) 7 x1) 8 x2) 9 x3) 8), .int (gI (sI (sI (sI (sI xb 6 x0) 7 x1) 8 x2) 9 x3) 9), .ref (q 11), .long (gL (sI (sI (sI (sI xb 6 x0) 7 x1) 8 x2) 9 x3) 0), .ref (q 12), .ref (q 13), .ref (q 14), .int (gI (sI (sI (sI (sI xb 6 x0) 7 x1) 8 x2) 9 x3) 10)].set 19 (.int xn))) = WM q cy (sI (sI (sI (sI xb 6 x0) 7 x1) 8 x2) 9 xn) ++ rest := fun _ _ _ _ _ _ => rfl
              have hP : va_P D vwCl (WM q cy (sI (sI (sI (sI u 6 2) 7 (((a1 - 85) / 441) - 1)) 8 (((a1 - 85) - (a1 - 85) / 441 * 441) / 21)) 9 ((a1 - 85) - (a1 - 85) / 21 * 21)) ++ rest) H := k_wP (hQ u 2 (((a1 - 85) / 441) - 1) (((a1 - 85) - (a1 - 85) / 441 * 441) / 21) (-1) ((a1 - 85) - (a1 - 85) / 21 * 21)) hP
              have hD : va_D A (WM q cy (sI (sI (sI (sI u 6 2) 7 (((a1 - 85) / 441) - 1)) 8 (((a1 - 85) - (a1 - 85) / 441 * 441) / 21)) 9 ((a1 - 85) - (a1 - 85) / 21 * 21)) ++ rest) := k_wD (hQ u 2 (((a1 - 85) / 441) - 1) (((a1 - 85) - (a1 - 85) / 441 * 441) / 21) (-1) ((a1 - 85) - (a1 - 85) / 21 * 21)) hD
              clear hQ
              obtain rfl := o_ret hf
              exact k_vret hx hb hr hP hD hS (Nat.zero_le _) (Nat.zero_le _) hlocks dX6_opens_143
          · have hf := o_in c93 hf
            refine lv_iload_n hx hb dX6_opens_96 rfl (lv_at hl 0 rfl) ?_
            refine lv_iconst (v := 1) hx hb dX6_opens_97 (by decide) ?_
            refine lv_iadd hx hb dX6_opens_98 ?_
            refine lv_goto (tgt := 114) hx hb dX6_opens_99 (by decide) ?_
            refine va_put (ci := 6) (v := .int (((a1 - 85) / 441) + 1)) (ty := .int) (C := RX6) (T := TX6) (N := 26) hx hb hts inlX6 tyX6 tyX6_ok nmX6 hown hE.1 hP hD hS 0 rfl rfl 17 (by decide) (hts _ wB560) (fun _ h9 => h9) rfl (by decide +kernel) rfl rfl (Nat.le_of_ble_eq_true rfl) dX6_opens_114 (fun H locs hP hD hS => ?_)
            have hQ : ∀ (xb : KS) (x0 : Int32) (x1 : Int32) (x2 : Int32) (x3 : Int32) (xn : Int32), (WM q cy (sI (sI (sI (sI xb 6 x0) 7 x1) 8 x2) 9 x3) ++ rest).set 0 (q 0, .inr (6, [.ref (q 1), .ref (q 2), .ref (q 3), .ref (q 4), .int (gI (sI (sI (sI (sI xb 6 x0) 7 x1) 8 x2) 9 x3) 0), .ref (q 5), .ref (q 6), .int (gI (sI (sI (sI (sI xb 6 x0) 7 x1) 8 x2) 9 x3) 1), .int (gI (sI (sI (sI (sI xb 6 x0) 7 x1) 8 x2) 9 x3) 2), .int (gI (sI (sI (sI (sI xb 6 x0) 7 x1) 8 x2) 9 x3) 3), .int (gI (sI (sI (sI (sI xb 6 x0) 7 x1) 8 x2) 9 x3) 4), .ref (q 7), .ref (q 8), .ref (q 9), .int (gI (sI (sI (sI (sI xb 6 x0) 7 x1) 8 x2) 9 x3) 5), .ref (q 10), .int (gI (sI (sI (sI (sI xb 6 x0) 7 x1) 8 x2) 9 x3) 6), .int (gI (sI (sI (sI (sI xb 6 x0) 7 x1) 8 x2) 9 x3) 7), .int (gI (sI (sI (sI (sI xb 6 x0) 7 x1) 8 x2) 9 x3) 8), .int (gI (sI (sI (sI (sI xb 6 x0) 7 x1) 8 x2) 9 x3) 9), .ref (q 11), .long (gL (sI (sI (sI (sI xb 6 x0) 7 x1) 8 x2) 9 x3) 0), .ref (q 12), .ref (q 13), .ref (q 14), .int (gI (sI (sI (sI (sI xb 6 x0) 7 x1) 8 x2) 9 x3) 10)].set 17 (.int xn))) = WM q cy (sI (sI (sI (sI xb 6 x0) 7 xn) 8 x2) 9 x3) ++ rest := fun _ _ _ _ _ _ => rfl
            have hP : va_P D vwCl (WM q cy (sI (sI (sI (sI u 6 2) 7 (((a1 - 85) / 441) + 1)) 8 ((a1 - 1) - (a1 - 1) / 21 * 21)) 9 (-1)) ++ rest) H := k_wP (hQ u 2 (-1) ((a1 - 1) - (a1 - 1) / 21 * 21) (-1) (((a1 - 85) / 441) + 1)) hP
            have hD : va_D A (WM q cy (sI (sI (sI (sI u 6 2) 7 (((a1 - 85) / 441) + 1)) 8 ((a1 - 1) - (a1 - 1) / 21 * 21)) 9 (-1)) ++ rest) := k_wD (hQ u 2 (-1) ((a1 - 1) - (a1 - 1) / 21 * 21) (-1) (((a1 - 85) / 441) + 1)) hD
            clear hQ
            refine lv_aload_n hx hb dX6_opens_117 rfl (lv_at hl 1 rfl) ?_
            refine lv_iload_n hx hb dX6_opens_118 rfl (lv_at hl 2 rfl) ?_
            refine lv_bipush (v := 85) hx hb dX6_opens_119 (by decide) ?_
            refine lv_isub hx hb dX6_opens_121 ?_
            refine lv_sipush (v := 441) hx hb dX6_opens_122 (by decide) ?_
            refine lv_irem hx hb dX6_opens_125 (by decide) ?_
            refine lv_bipush (v := 21) hx hb dX6_opens_126 (by decide) ?_
            refine lv_idiv hx hb dX6_opens_128 (by decide) ?_
            refine va_put (ci := 6) (v := .int (((a1 - 85) - (a1 - 85) / 441 * 441) / 21)) (ty := .int) (C := RX6) (T := TX6) (N := 26) hx hb hts inlX6 tyX6 tyX6_ok nmX6 hown hE.1 hP hD hS 0 rfl rfl 18 (by decide) (hts _ wB559) (fun _ h9 => h9) rfl (by decide +kernel) rfl rfl (Nat.le_of_ble_eq_true rfl) dX6_opens_129 (fun H locs hP hD hS => ?_)
            have hQ : ∀ (xb : KS) (x0 : Int32) (x1 : Int32) (x2 : Int32) (x3 : Int32) (xn : Int32), (WM q cy (sI (sI (sI (sI xb 6 x0) 7 x1) 8 x2) 9 x3) ++ rest).set 0 (q 0, .inr (6, [.ref (q 1), .ref (q 2), .ref (q 3), .ref (q 4), .int (gI (sI (sI (sI (sI xb 6 x0) 7 x1) 8 x2) 9 x3) 0), .ref (q 5), .ref (q 6), .int (gI (sI (sI (sI (sI xb 6 x0) 7 x1) 8 x2) 9 x3) 1), .int (gI (sI (sI (sI (sI xb 6 x0) 7 x1) 8 x2) 9 x3) 2), .int (gI (sI (sI (sI (sI xb 6 x0) 7 x1) 8 x2) 9 x3) 3), .int (gI (sI (sI (sI (sI xb 6 x0) 7 x1) 8 x2) 9 x3) 4), .ref (q 7), .ref (q 8), .ref (q 9), .int (gI (sI (sI (sI (sI xb 6 x0) 7 x1) 8 x2) 9 x3) 5), .ref (q 10), .int (gI (sI (sI (sI (sI xb 6 x0) 7 x1) 8 x2) 9 x3) 6), .int (gI (sI (sI (sI (sI xb 6 x0) 7 x1) 8 x2) 9 x3) 7), .int (gI (sI (sI (sI (sI xb 6 x0) 7 x1) 8 x2) 9 x3) 8), .int (gI (sI (sI (sI (sI xb 6 x0) 7 x1) 8 x2) 9 x3) 9), .ref (q 11), .long (gL (sI (sI (sI (sI xb 6 x0) 7 x1) 8 x2) 9 x3) 0), .ref (q 12), .ref (q 13), .ref (q 14), .int (gI (sI (sI (sI (sI xb 6 x0) 7 x1) 8 x2) 9 x3) 10)].set 18 (.int xn))) = WM q cy (sI (sI (sI (sI xb 6 x0) 7 x1) 8 xn) 9 x3) ++ rest := fun _ _ _ _ _ _ => rfl
            have hP : va_P D vwCl (WM q cy (sI (sI (sI (sI u 6 2) 7 (((a1 - 85) / 441) + 1)) 8 (((a1 - 85) - (a1 - 85) / 441 * 441) / 21)) 9 (-1)) ++ rest) H := k_wP (hQ u 2 (((a1 - 85) / 441) + 1) ((a1 - 1) - (a1 - 1) / 21 * 21) (-1) (((a1 - 85) - (a1 - 85) / 441 * 441) / 21)) hP
            have hD : va_D A (WM q cy (sI (sI (sI (sI u 6 2) 7 (((a1 - 85) / 441) + 1)) 8 (((a1 - 85) - (a1 - 85) / 441 * 441) / 21)) 9 (-1)) ++ rest) := k_wD (hQ u 2 (((a1 - 85) / 441) + 1) ((a1 - 1) - (a1 - 1) / 21 * 21) (-1) (((a1 - 85) - (a1 - 85) / 441 * 441) / 21)) hD
            clear hQ
            refine lv_aload_n hx hb dX6_opens_132 rfl (lv_at hl 1 rfl) ?_
            refine lv_iload_n hx hb dX6_opens_133 rfl (lv_at hl 2 rfl) ?_
            refine lv_bipush (v := 85) hx hb dX6_opens_134 (by decide) ?_
            refine lv_isub hx hb dX6_opens_136 ?_
            refine lv_bipush (v := 21) hx hb dX6_opens_137 (by decide) ?_
            refine lv_irem hx hb dX6_opens_139 (by decide) ?_
            refine va_put (ci := 6) (v := .int ((a1 - 85) - (a1 - 85) / 21 * 21)) (ty := .int) (C := RX6) (T := TX6) (N := 26) hx hb hts inlX6 tyX6 tyX6_ok nmX6 hown hE.1 hP hD hS 0 rfl rfl 19 (by decide) (hts _ wB561) (fun _ h9 => h9) rfl (by decide +kernel) rfl rfl (Nat.le_of_ble_eq_true rfl) dX6_opens_140 (fun H locs hP hD hS => ?_)
            have hQ : ∀ (xb : KS) (x0 : Int32) (x1 : Int32) (x2 : Int32) (x3 : Int32) (xn : Int32), (WM q cy (sI (sI (sI (sI xb 6 x0) 7 x1) 8 x2) 9 x3) ++ rest).set 0 (q 0, .inr (6, [.ref (q 1), .ref (q 2), .ref (q 3), .ref (q 4), .int (gI (sI (sI (sI (sI xb 6 x0) 7 x1) 8 x2) 9 x3) 0), .ref (q 5), .ref (q 6), .int (gI (sI (sI (sI (sI xb 6 x0) 7 x1) 8 x2) 9 x3) 1), .int (gI (sI (sI (sI (sI xb 6 x0) 7 x1) 8 x2) 9 x3) 2), .int (gI (sI (sI (sI (sI xb 6 x0) 7 x1) 8 x2) 9 x3) 3), .int (gI (sI (sI (sI (sI xb 6 x0) 7 x1) 8 x2) 9 x3) 4), .ref (q 7), .ref (q 8), .ref (q 9), .int (gI (sI (sI (sI (sI xb 6 x0) 7 x1) 8 x2) 9 x3) 5), .ref (q 10), .int (gI (sI (sI (sI (sI xb 6 x0) 7 x1) 8 x2) 9 x3) 6), .int (gI (sI (sI (sI (sI xb 6 x0) 7 x1) 8 x2) 9 x3) 7), .int (gI (sI (sI (sI (sI xb 6 x0) 7 x1) 8 x2) 9 x3) 8), .int (gI (sI (sI (sI (sI xb 6 x0) 7 x1) 8 x2) 9 x3) 9), .ref (q 11), .long (gL (sI (sI (sI (sI xb 6 x0) 7 x1) 8 x2) 9 x3) 0), .ref (q 12), .ref (q 13), .ref (q 14), .int (gI (sI (sI (sI (sI xb 6 x0) 7 x1) 8 x2) 9 x3) 10)].set 19 (.int xn))) = WM q cy (sI (sI (sI (sI xb 6 x0) 7 x1) 8 x2) 9 xn) ++ rest := fun _ _ _ _ _ _ => rfl
            have hP : va_P D vwCl (WM q cy (sI (sI (sI (sI u 6 2) 7 (((a1 - 85) / 441) + 1)) 8 (((a1 - 85) - (a1 - 85) / 441 * 441) / 21)) 9 ((a1 - 85) - (a1 - 85) / 21 * 21)) ++ rest) H := k_wP (hQ u 2 (((a1 - 85) / 441) + 1) (((a1 - 85) - (a1 - 85) / 441 * 441) / 21) (-1) ((a1 - 85) - (a1 - 85) / 21 * 21)) hP
            have hD : va_D A (WM q cy (sI (sI (sI (sI u 6 2) 7 (((a1 - 85) / 441) + 1)) 8 (((a1 - 85) - (a1 - 85) / 441 * 441) / 21)) 9 ((a1 - 85) - (a1 - 85) / 21 * 21)) ++ rest) := k_wD (hQ u 2 (((a1 - 85) / 441) + 1) (((a1 - 85) - (a1 - 85) / 441 * 441) / 21) (-1) ((a1 - 85) - (a1 - 85) / 21 * 21)) hD
            clear hQ
            obtain rfl := o_ret hf
            exact k_vret hx hb hr hP hD hS (Nat.zero_le _) (Nat.zero_le _) hlocks dX6_opens_143
        · have hf := o_in c79 hf
          refine lv_iconst (v := 1) hx hb dX6_opens_82 (by decide) ?_
          refine lv_goto (tgt := 87) hx hb dX6_opens_83 (by decide) ?_
          refine va_put (ci := 6) (v := .int 1) (ty := .int) (C := RX6) (T := TX6) (N := 26) hx hb hts inlX6 tyX6 tyX6_ok nmX6 hown hE.1 hP hD hS 0 rfl rfl 16 (by decide) (hts _ wB558) (fun _ h9 => h9) rfl (by decide +kernel) rfl rfl (Nat.le_of_ble_eq_true rfl) dX6_opens_87 (fun H locs hP hD hS => ?_)
          have hQ : ∀ (xb : KS) (x0 : Int32) (x1 : Int32) (x2 : Int32) (x3 : Int32) (xn : Int32), (WM q cy (sI (sI (sI (sI xb 6 x0) 7 x1) 8 x2) 9 x3) ++ rest).set 0 (q 0, .inr (6, [.ref (q 1), .ref (q 2), .ref (q 3), .ref (q 4), .int (gI (sI (sI (sI (sI xb 6 x0) 7 x1) 8 x2) 9 x3) 0), .ref (q 5), .ref (q 6), .int (gI (sI (sI (sI (sI xb 6 x0) 7 x1) 8 x2) 9 x3) 1), .int (gI (sI (sI (sI (sI xb 6 x0) 7 x1) 8 x2) 9 x3) 2), .int (gI (sI (sI (sI (sI xb 6 x0) 7 x1) 8 x2) 9 x3) 3), .int (gI (sI (sI (sI (sI xb 6 x0) 7 x1) 8 x2) 9 x3) 4), .ref (q 7), .ref (q 8), .ref (q 9), .int (gI (sI (sI (sI (sI xb 6 x0) 7 x1) 8 x2) 9 x3) 5), .ref (q 10), .int (gI (sI (sI (sI (sI xb 6 x0) 7 x1) 8 x2) 9 x3) 6), .int (gI (sI (sI (sI (sI xb 6 x0) 7 x1) 8 x2) 9 x3) 7), .int (gI (sI (sI (sI (sI xb 6 x0) 7 x1) 8 x2) 9 x3) 8), .int (gI (sI (sI (sI (sI xb 6 x0) 7 x1) 8 x2) 9 x3) 9), .ref (q 11), .long (gL (sI (sI (sI (sI xb 6 x0) 7 x1) 8 x2) 9 x3) 0), .ref (q 12), .ref (q 13), .ref (q 14), .int (gI (sI (sI (sI (sI xb 6 x0) 7 x1) 8 x2) 9 x3) 10)].set 16 (.int xn))) = WM q cy (sI (sI (sI (sI xb 6 xn) 7 x1) 8 x2) 9 x3) ++ rest := fun _ _ _ _ _ _ => rfl
          have hP : va_P D vwCl (WM q cy (sI (sI (sI (sI u 6 1) 7 (-1)) 8 ((a1 - 1) - (a1 - 1) / 21 * 21)) 9 (-1)) ++ rest) H := k_wP (hQ u ((a1 - 1) / 21) (-1) ((a1 - 1) - (a1 - 1) / 21 * 21) (-1) 1) hP
          have hD : va_D A (WM q cy (sI (sI (sI (sI u 6 1) 7 (-1)) 8 ((a1 - 1) - (a1 - 1) / 21 * 21)) 9 (-1)) ++ rest) := k_wD (hQ u ((a1 - 1) / 21) (-1) ((a1 - 1) - (a1 - 1) / 21 * 21) (-1) 1) hD
          clear hQ
          refine lv_aload_n hx hb dX6_opens_90 rfl (lv_at hl 1 rfl) ?_
          refine lv_iload_n hx hb dX6_opens_91 rfl (lv_at hl 0 rfl) ?_
          refine lv_iconst (v := 3) hx hb dX6_opens_92 (by decide) ?_
          refine lv_icmp_ge (tgt := 102) hx hb dX6_opens_93 (by decide) (fun c93 => ?_) (fun c93 => ?_)
          · have hf := o_ip c93 hf
            refine lv_iload_n hx hb dX6_opens_102 rfl (lv_at hl 0 rfl) ?_
            refine lv_iconst (v := 5) hx hb dX6_opens_103 (by decide) ?_
            refine lv_icmp_ge (tgt := 113) hx hb dX6_opens_104 (by decide) (fun c104 => ?_) (fun c104 => ?_)
            · have hf := o_ip c104 hf
              refine lv_iconst (v := 3) hx hb dX6_opens_113 (by decide) ?_
              refine va_put (ci := 6) (v := .int 3) (ty := .int) (C := RX6) (T := TX6) (N := 26) hx hb hts inlX6 tyX6 tyX6_ok nmX6 hown hE.1 hP hD hS 0 rfl rfl 17 (by decide) (hts _ wB560) (fun _ h9 => h9) rfl (by decide +kernel) rfl rfl (Nat.le_of_ble_eq_true rfl) dX6_opens_114 (fun H locs hP hD hS => ?_)
              have hQ : ∀ (xb : KS) (x0 : Int32) (x1 : Int32) (x2 : Int32) (x3 : Int32) (xn : Int32), (WM q cy (sI (sI (sI (sI xb 6 x0) 7 x1) 8 x2) 9 x3) ++ rest).set 0 (q 0, .inr (6, [.ref (q 1), .ref (q 2), .ref (q 3), .ref (q 4), .int (gI (sI (sI (sI (sI xb 6 x0) 7 x1) 8 x2) 9 x3) 0), .ref (q 5), .ref (q 6), .int (gI (sI (sI (sI (sI xb 6 x0) 7 x1) 8 x2) 9 x3) 1), .int (gI (sI (sI (sI (sI xb 6 x0) 7 x1) 8 x2) 9 x3) 2), .int (gI (sI (sI (sI (sI xb 6 x0) 7 x1) 8 x2) 9 x3) 3), .int (gI (sI (sI (sI (sI xb 6 x0) 7 x1) 8 x2) 9 x3) 4), .ref (q 7), .ref (q 8), .ref (q 9), .int (gI (sI (sI (sI (sI xb 6 x0) 7 x1) 8 x2) 9 x3) 5), .ref (q 10), .int (gI (sI (sI (sI (sI xb 6 x0) 7 x1) 8 x2) 9 x3) 6), .int (gI (sI (sI (sI (sI xb 6 x0) 7 x1) 8 x2) 9 x3) 7), .int (gI (sI (sI (sI (sI xb 6 x0) 7 x1) 8 x2) 9 x3) 8), .int (gI (sI (sI (sI (sI xb 6 x0) 7 x1) 8 x2) 9 x3) 9), .ref (q 11), .long (gL (sI (sI (sI (sI xb 6 x0) 7 x1) 8 x2) 9 x3) 0), .ref (q 12), .ref (q 13), .ref (q 14), .int (gI (sI (sI (sI (sI xb 6 x0) 7 x1) 8 x2) 9 x3) 10)].set 17 (.int xn))) = WM q cy (sI (sI (sI (sI xb 6 x0) 7 xn) 8 x2) 9 x3) ++ rest := fun _ _ _ _ _ _ => rfl
              have hP : va_P D vwCl (WM q cy (sI (sI (sI (sI u 6 1) 7 3) 8 ((a1 - 1) - (a1 - 1) / 21 * 21)) 9 (-1)) ++ rest) H := k_wP (hQ u 1 (-1) ((a1 - 1) - (a1 - 1) / 21 * 21) (-1) 3) hP
              have hD : va_D A (WM q cy (sI (sI (sI (sI u 6 1) 7 3) 8 ((a1 - 1) - (a1 - 1) / 21 * 21)) 9 (-1)) ++ rest) := k_wD (hQ u 1 (-1) ((a1 - 1) - (a1 - 1) / 21 * 21) (-1) 3) hD
              clear hQ
              refine lv_aload_n hx hb dX6_opens_117 rfl (lv_at hl 1 rfl) ?_
              refine lv_iload_n hx hb dX6_opens_118 rfl (lv_at hl 2 rfl) ?_
              refine lv_bipush (v := 85) hx hb dX6_opens_119 (by decide) ?_
              refine lv_isub hx hb dX6_opens_121 ?_
              refine lv_sipush (v := 441) hx hb dX6_opens_122 (by decide) ?_
              refine lv_irem hx hb dX6_opens_125 (by decide) ?_
              refine lv_bipush (v := 21) hx hb dX6_opens_126 (by decide) ?_
              refine lv_idiv hx hb dX6_opens_128 (by decide) ?_
              refine va_put (ci := 6) (v := .int (((a1 - 85) - (a1 - 85) / 441 * 441) / 21)) (ty := .int) (C := RX6) (T := TX6) (N := 26) hx hb hts inlX6 tyX6 tyX6_ok nmX6 hown hE.1 hP hD hS 0 rfl rfl 18 (by decide) (hts _ wB559) (fun _ h9 => h9) rfl (by decide +kernel) rfl rfl (Nat.le_of_ble_eq_true rfl) dX6_opens_129 (fun H locs hP hD hS => ?_)
              have hQ : ∀ (xb : KS) (x0 : Int32) (x1 : Int32) (x2 : Int32) (x3 : Int32) (xn : Int32), (WM q cy (sI (sI (sI (sI xb 6 x0) 7 x1) 8 x2) 9 x3) ++ rest).set 0 (q 0, .inr (6, [.ref (q 1), .ref (q 2), .ref (q 3), .ref (q 4), .int (gI (sI (sI (sI (sI xb 6 x0) 7 x1) 8 x2) 9 x3) 0), .ref (q 5), .ref (q 6), .int (gI (sI (sI (sI (sI xb 6 x0) 7 x1) 8 x2) 9 x3) 1), .int (gI (sI (sI (sI (sI xb 6 x0) 7 x1) 8 x2) 9 x3) 2), .int (gI (sI (sI (sI (sI xb 6 x0) 7 x1) 8 x2) 9 x3) 3), .int (gI (sI (sI (sI (sI xb 6 x0) 7 x1) 8 x2) 9 x3) 4), .ref (q 7), .ref (q 8), .ref (q 9), .int (gI (sI (sI (sI (sI xb 6 x0) 7 x1) 8 x2) 9 x3) 5), .ref (q 10), .int (gI (sI (sI (sI (sI xb 6 x0) 7 x1) 8 x2) 9 x3) 6), .int (gI (sI (sI (sI (sI xb 6 x0) 7 x1) 8 x2) 9 x3) 7), .int (gI (sI (sI (sI (sI xb 6 x0) 7 x1) 8 x2) 9 x3) 8), .int (gI (sI (sI (sI (sI xb 6 x0) 7 x1) 8 x2) 9 x3) 9), .ref (q 11), .long (gL (sI (sI (sI (sI xb 6 x0) 7 x1) 8 x2) 9 x3) 0), .ref (q 12), .ref (q 13), .ref (q 14), .int (gI (sI (sI (sI (sI xb 6 x0) 7 x1) 8 x2) 9 x3) 10)].set 18 (.int xn))) = WM q cy (sI (sI (sI (sI xb 6 x0) 7 x1) 8 xn) 9 x3) ++ rest := fun _ _ _ _ _ _ => rfl
              have hP : va_P D vwCl (WM q cy (sI (sI (sI (sI u 6 1) 7 3) 8 (((a1 - 85) - (a1 - 85) / 441 * 441) / 21)) 9 (-1)) ++ rest) H := k_wP (hQ u 1 3 ((a1 - 1) - (a1 - 1) / 21 * 21) (-1) (((a1 - 85) - (a1 - 85) / 441 * 441) / 21)) hP
              have hD : va_D A (WM q cy (sI (sI (sI (sI u 6 1) 7 3) 8 (((a1 - 85) - (a1 - 85) / 441 * 441) / 21)) 9 (-1)) ++ rest) := k_wD (hQ u 1 3 ((a1 - 1) - (a1 - 1) / 21 * 21) (-1) (((a1 - 85) - (a1 - 85) / 441 * 441) / 21)) hD
              clear hQ
              refine lv_aload_n hx hb dX6_opens_132 rfl (lv_at hl 1 rfl) ?_
              refine lv_iload_n hx hb dX6_opens_133 rfl (lv_at hl 2 rfl) ?_
              refine lv_bipush (v := 85) hx hb dX6_opens_134 (by decide) ?_
              refine lv_isub hx hb dX6_opens_136 ?_
              refine lv_bipush (v := 21) hx hb dX6_opens_137 (by decide) ?_
              refine lv_irem hx hb dX6_opens_139 (by decide) ?_
              refine va_put (ci := 6) (v := .int ((a1 - 85) - (a1 - 85) / 21 * 21)) (ty := .int) (C := RX6) (T := TX6) (N := 26) hx hb hts inlX6 tyX6 tyX6_ok nmX6 hown hE.1 hP hD hS 0 rfl rfl 19 (by decide) (hts _ wB561) (fun _ h9 => h9) rfl (by decide +kernel) rfl rfl (Nat.le_of_ble_eq_true rfl) dX6_opens_140 (fun H locs hP hD hS => ?_)
              have hQ : ∀ (xb : KS) (x0 : Int32) (x1 : Int32) (x2 : Int32) (x3 : Int32) (xn : Int32), (WM q cy (sI (sI (sI (sI xb 6 x0) 7 x1) 8 x2) 9 x3) ++ rest).set 0 (q 0, .inr (6, [.ref (q 1), .ref (q 2), .ref (q 3), .ref (q 4), .int (gI (sI (sI (sI (sI xb 6 x0) 7 x1) 8 x2) 9 x3) 0), .ref (q 5), .ref (q 6), .int (gI (sI (sI (sI (sI xb 6 x0) 7 x1) 8 x2) 9 x3) 1), .int (gI (sI (sI (sI (sI xb 6 x0) 7 x1) 8 x2) 9 x3) 2), .int (gI (sI (sI (sI (sI xb 6 x0) 7 x1) 8 x2) 9 x3) 3), .int (gI (sI (sI (sI (sI xb 6 x0) 7 x1) 8 x2) 9 x3) 4), .ref (q 7), .ref (q 8), .ref (q 9), .int (gI (sI (sI (sI (sI xb 6 x0) 7 x1) 8 x2) 9 x3) 5), .ref (q 10), .int (gI (sI (sI (sI (sI xb 6 x0) 7 x1) 8 x2) 9 x3) 6), .int (gI (sI (sI (sI (sI xb 6 x0) 7 x1) 8 x2) 9 x3) 7), .int (gI (sI (sI (sI (sI xb 6 x0) 7 x1) 8 x2) 9 x3) 8), .int (gI (sI (sI (sI (sI xb 6 x0) 7 x1) 8 x2) 9 x3) 9), .ref (q 11), .long (gL (sI (sI (sI (sI xb 6 x0) 7 x1) 8 x2) 9 x3) 0), .ref (q 12), .ref (q 13), .ref (q 14), .int (gI (sI (sI (sI (sI xb 6 x0) 7 x1) 8 x2) 9 x3) 10)].set 19 (.int xn))) = WM q cy (sI (sI (sI (sI xb 6 x0) 7 x1) 8 x2) 9 xn) ++ rest := fun _ _ _ _ _ _ => rfl
              have hP : va_P D vwCl (WM q cy (sI (sI (sI (sI u 6 1) 7 3) 8 (((a1 - 85) - (a1 - 85) / 441 * 441) / 21)) 9 ((a1 - 85) - (a1 - 85) / 21 * 21)) ++ rest) H := k_wP (hQ u 1 3 (((a1 - 85) - (a1 - 85) / 441 * 441) / 21) (-1) ((a1 - 85) - (a1 - 85) / 21 * 21)) hP
              have hD : va_D A (WM q cy (sI (sI (sI (sI u 6 1) 7 3) 8 (((a1 - 85) - (a1 - 85) / 441 * 441) / 21)) 9 ((a1 - 85) - (a1 - 85) / 21 * 21)) ++ rest) := k_wD (hQ u 1 3 (((a1 - 85) - (a1 - 85) / 441 * 441) / 21) (-1) ((a1 - 85) - (a1 - 85) / 21 * 21)) hD
              clear hQ
              obtain rfl := o_ret hf
              exact k_vret hx hb hr hP hD hS (Nat.zero_le _) (Nat.zero_le _) hlocks dX6_opens_143
            · have hf := o_in c104 hf
              refine lv_iload_n hx hb dX6_opens_107 rfl (lv_at hl 0 rfl) ?_
              refine lv_iconst (v := 1) hx hb dX6_opens_108 (by decide) ?_
              refine lv_isub hx hb dX6_opens_109 ?_
              refine lv_goto (tgt := 114) hx hb dX6_opens_110 (by decide) ?_
              refine va_put (ci := 6) (v := .int (((a1 - 85) / 441) - 1)) (ty := .int) (C := RX6) (T := TX6) (N := 26) hx hb hts inlX6 tyX6 tyX6_ok nmX6 hown hE.1 hP hD hS 0 rfl rfl 17 (by decide) (hts _ wB560) (fun _ h9 => h9) rfl (by decide +kernel) rfl rfl (Nat.le_of_ble_eq_true rfl) dX6_opens_114 (fun H locs hP hD hS => ?_)
              have hQ : ∀ (xb : KS) (x0 : Int32) (x1 : Int32) (x2 : Int32) (x3 : Int32) (xn : Int32), (WM q cy (sI (sI (sI (sI xb 6 x0) 7 x1) 8 x2) 9 x3) ++ rest).set 0 (q 0, .inr (6, [.ref (q 1), .ref (q 2), .ref (q 3), .ref (q 4), .int (gI (sI (sI (sI (sI xb 6 x0) 7 x1) 8 x2) 9 x3) 0), .ref (q 5), .ref (q 6), .int (gI (sI (sI (sI (sI xb 6 x0) 7 x1) 8 x2) 9 x3) 1), .int (gI (sI (sI (sI (sI xb 6 x0) 7 x1) 8 x2) 9 x3) 2), .int (gI (sI (sI (sI (sI xb 6 x0) 7 x1) 8 x2) 9 x3) 3), .int (gI (sI (sI (sI (sI xb 6 x0) 7 x1) 8 x2) 9 x3) 4), .ref (q 7), .ref (q 8), .ref (q 9), .int (gI (sI (sI (sI (sI xb 6 x0) 7 x1) 8 x2) 9 x3) 5), .ref (q 10), .int (gI (sI (sI (sI (sI xb 6 x0) 7 x1) 8 x2) 9 x3) 6), .int (gI (sI (sI (sI (sI xb 6 x0) 7 x1) 8 x2) 9 x3) 7), .int (gI (sI (sI (sI (sI xb 6 x0) 7 x1) 8 x2) 9 x3) 8), .int (gI (sI (sI (sI (sI xb 6 x0) 7 x1) 8 x2) 9 x3) 9), .ref (q 11), .long (gL (sI (sI (sI (sI xb 6 x0) 7 x1) 8 x2) 9 x3) 0), .ref (q 12), .ref (q 13), .ref (q 14), .int (gI (sI (sI (sI (sI xb 6 x0) 7 x1) 8 x2) 9 x3) 10)].set 17 (.int xn))) = WM q cy (sI (sI (sI (sI xb 6 x0) 7 xn) 8 x2) 9 x3) ++ rest := fun _ _ _ _ _ _ => rfl
              have hP : va_P D vwCl (WM q cy (sI (sI (sI (sI u 6 1) 7 (((a1 - 85) / 441) - 1)) 8 ((a1 - 1) - (a1 - 1) / 21 * 21)) 9 (-1)) ++ rest) H := k_wP (hQ u 1 (-1) ((a1 - 1) - (a1 - 1) / 21 * 21) (-1) (((a1 - 85) / 441) - 1)) hP
              have hD : va_D A (WM q cy (sI (sI (sI (sI u 6 1) 7 (((a1 - 85) / 441) - 1)) 8 ((a1 - 1) - (a1 - 1) / 21 * 21)) 9 (-1)) ++ rest) := k_wD (hQ u 1 (-1) ((a1 - 1) - (a1 - 1) / 21 * 21) (-1) (((a1 - 85) / 441) - 1)) hD
              clear hQ
              refine lv_aload_n hx hb dX6_opens_117 rfl (lv_at hl 1 rfl) ?_
              refine lv_iload_n hx hb dX6_opens_118 rfl (lv_at hl 2 rfl) ?_
              refine lv_bipush (v := 85) hx hb dX6_opens_119 (by decide) ?_
              refine lv_isub hx hb dX6_opens_121 ?_
              refine lv_sipush (v := 441) hx hb dX6_opens_122 (by decide) ?_
              refine lv_irem hx hb dX6_opens_125 (by decide) ?_
              refine lv_bipush (v := 21) hx hb dX6_opens_126 (by decide) ?_
              refine lv_idiv hx hb dX6_opens_128 (by decide) ?_
              refine va_put (ci := 6) (v := .int (((a1 - 85) - (a1 - 85) / 441 * 441) / 21)) (ty := .int) (C := RX6) (T := TX6) (N := 26) hx hb hts inlX6 tyX6 tyX6_ok nmX6 hown hE.1 hP hD hS 0 rfl rfl 18 (by decide) (hts _ wB559) (fun _ h9 => h9) rfl (by decide +kernel) rfl rfl (Nat.le_of_ble_eq_true rfl) dX6_opens_129 (fun H locs hP hD hS => ?_)
              have hQ : ∀ (xb : KS) (x0 : Int32) (x1 : Int32) (x2 : Int32) (x3 : Int32) (xn : Int32), (WM q cy (sI (sI (sI (sI xb 6 x0) 7 x1) 8 x2) 9 x3) ++ rest).set 0 (q 0, .inr (6, [.ref (q 1), .ref (q 2), .ref (q 3), .ref (q 4), .int (gI (sI (sI (sI (sI xb 6 x0) 7 x1) 8 x2) 9 x3) 0), .ref (q 5), .ref (q 6), .int (gI (sI (sI (sI (sI xb 6 x0) 7 x1) 8 x2) 9 x3) 1), .int (gI (sI (sI (sI (sI xb 6 x0) 7 x1) 8 x2) 9 x3) 2), .int (gI (sI (sI (sI (sI xb 6 x0) 7 x1) 8 x2) 9 x3) 3), .int (gI (sI (sI (sI (sI xb 6 x0) 7 x1) 8 x2) 9 x3) 4), .ref (q 7), .ref (q 8), .ref (q 9), .int (gI (sI (sI (sI (sI xb 6 x0) 7 x1) 8 x2) 9 x3) 5), .ref (q 10), .int (gI (sI (sI (sI (sI xb 6 x0) 7 x1) 8 x2) 9 x3) 6), .int (gI (sI (sI (sI (sI xb 6 x0) 7 x1) 8 x2) 9 x3) 7), .int (gI (sI (sI (sI (sI xb 6 x0) 7 x1) 8 x2) 9 x3) 8), .int (gI (sI (sI (sI (sI xb 6 x0) 7 x1) 8 x2) 9 x3) 9), .ref (q 11), .long (gL (sI (sI (sI (sI xb 6 x0) 7 x1) 8 x2) 9 x3) 0), .ref (q 12), .ref (q 13), .ref (q 14), .int (gI (sI (sI (sI (sI xb 6 x0) 7 x1) 8 x2) 9 x3) 10)].set 18 (.int xn))) = WM q cy (sI (sI (sI (sI xb 6 x0) 7 x1) 8 xn) 9 x3) ++ rest := fun _ _ _ _ _ _ => rfl
              have hP : va_P D vwCl (WM q cy (sI (sI (sI (sI u 6 1) 7 (((a1 - 85) / 441) - 1)) 8 (((a1 - 85) - (a1 - 85) / 441 * 441) / 21)) 9 (-1)) ++ rest) H := k_wP (hQ u 1 (((a1 - 85) / 441) - 1) ((a1 - 1) - (a1 - 1) / 21 * 21) (-1) (((a1 - 85) - (a1 - 85) / 441 * 441) / 21)) hP
              have hD : va_D A (WM q cy (sI (sI (sI (sI u 6 1) 7 (((a1 - 85) / 441) - 1)) 8 (((a1 - 85) - (a1 - 85) / 441 * 441) / 21)) 9 (-1)) ++ rest) := k_wD (hQ u 1 (((a1 - 85) / 441) - 1) ((a1 - 1) - (a1 - 1) / 21 * 21) (-1) (((a1 - 85) - (a1 - 85) / 441 * 441) / 21)) hD
              clear hQ
              refine lv_aload_n hx hb dX6_opens_132 rfl (lv_at hl 1 rfl) ?_
              refine lv_iload_n hx hb dX6_opens_133 rfl (lv_at hl 2 rfl) ?_
              refine lv_bipush (v := 85) hx hb dX6_opens_134 (by decide) ?_
              refine lv_isub hx hb dX6_opens_136 ?_
              refine lv_bipush (v := 21) hx hb dX6_opens_137 (by decide) ?_
              refine lv_irem hx hb dX6_opens_139 (by decide) ?_
              refine va_put (ci := 6) (v := .int ((a1 - 85) - (a1 - 85) / 21 * 21)) (ty := .int) (C := RX6) (T := TX6) (N := 26) hx hb hts inlX6 tyX6 tyX6_ok nmX6 hown hE.1 hP hD hS 0 rfl rfl 19 (by decide) (hts _ wB561) (fun _ h9 => h9) rfl (by decide +kernel) rfl rfl (Nat.le_of_ble_eq_true rfl) dX6_opens_140 (fun H locs hP hD hS => ?_)
              have hQ : ∀ (xb : KS) (x0 : Int32) (x1 : Int32) (x2 : Int32) (x3 : Int32) (xn : Int32), (WM q cy (sI (sI (sI (sI xb 6 x0) 7 x1) 8 x2) 9 x3) ++ rest).set 0 (q 0, .inr (6, [.ref (q 1), .ref (q 2), .ref (q 3), .ref (q 4), .int (gI (sI (sI (sI (sI xb 6 x0) 7 x1) 8 x2) 9 x3) 0), .ref (q 5), .ref (q 6), .int (gI (sI (sI (sI (sI xb 6 x0) 7 x1) 8 x2) 9 x3) 1), .int (gI (sI (sI (sI (sI xb 6 x0) 7 x1) 8 x2) 9 x3) 2), .int (gI (sI (sI (sI (sI xb 6 x0) 7 x1) 8 x2) 9 x3) 3), .int (gI (sI (sI (sI (sI xb 6 x0) 7 x1) 8 x2) 9 x3) 4), .ref (q 7), .ref (q 8), .ref (q 9), .int (gI (sI (sI (sI (sI xb 6 x0) 7 x1) 8 x2) 9 x3) 5), .ref (q 10), .int (gI (sI (sI (sI (sI xb 6 x0) 7 x1) 8 x2) 9 x3) 6), .int (gI (sI (sI (sI (sI xb 6 x0) 7 x1) 8 x2) 9 x3) 7), .int (gI (sI (sI (sI (sI xb 6 x0) 7 x1) 8 x2) 9 x3) 8), .int (gI (sI (sI (sI (sI xb 6 x0) 7 x1) 8 x2) 9 x3) 9), .ref (q 11), .long (gL (sI (sI (sI (sI xb 6 x0) 7 x1) 8 x2) 9 x3) 0), .ref (q 12), .ref (q 13), .ref (q 14), .int (gI (sI (sI (sI (sI xb 6 x0) 7 x1) 8 x2) 9 x3) 10)].set 19 (.int xn))) = WM q cy (sI (sI (sI (sI xb 6 x0) 7 x1) 8 x2) 9 xn) ++ rest := fun _ _ _ _ _ _ => rfl
              have hP : va_P D vwCl (WM q cy (sI (sI (sI (sI u 6 1) 7 (((a1 - 85) / 441) - 1)) 8 (((a1 - 85) - (a1 - 85) / 441 * 441) / 21)) 9 ((a1 - 85) - (a1 - 85) / 21 * 21)) ++ rest) H := k_wP (hQ u 1 (((a1 - 85) / 441) - 1) (((a1 - 85) - (a1 - 85) / 441 * 441) / 21) (-1) ((a1 - 85) - (a1 - 85) / 21 * 21)) hP
              have hD : va_D A (WM q cy (sI (sI (sI (sI u 6 1) 7 (((a1 - 85) / 441) - 1)) 8 (((a1 - 85) - (a1 - 85) / 441 * 441) / 21)) 9 ((a1 - 85) - (a1 - 85) / 21 * 21)) ++ rest) := k_wD (hQ u 1 (((a1 - 85) / 441) - 1) (((a1 - 85) - (a1 - 85) / 441 * 441) / 21) (-1) ((a1 - 85) - (a1 - 85) / 21 * 21)) hD
              clear hQ
              obtain rfl := o_ret hf
              exact k_vret hx hb hr hP hD hS (Nat.zero_le _) (Nat.zero_le _) hlocks dX6_opens_143
          · have hf := o_in c93 hf
            refine lv_iload_n hx hb dX6_opens_96 rfl (lv_at hl 0 rfl) ?_
            refine lv_iconst (v := 1) hx hb dX6_opens_97 (by decide) ?_
            refine lv_iadd hx hb dX6_opens_98 ?_
            refine lv_goto (tgt := 114) hx hb dX6_opens_99 (by decide) ?_
            refine va_put (ci := 6) (v := .int (((a1 - 85) / 441) + 1)) (ty := .int) (C := RX6) (T := TX6) (N := 26) hx hb hts inlX6 tyX6 tyX6_ok nmX6 hown hE.1 hP hD hS 0 rfl rfl 17 (by decide) (hts _ wB560) (fun _ h9 => h9) rfl (by decide +kernel) rfl rfl (Nat.le_of_ble_eq_true rfl) dX6_opens_114 (fun H locs hP hD hS => ?_)
            have hQ : ∀ (xb : KS) (x0 : Int32) (x1 : Int32) (x2 : Int32) (x3 : Int32) (xn : Int32), (WM q cy (sI (sI (sI (sI xb 6 x0) 7 x1) 8 x2) 9 x3) ++ rest).set 0 (q 0, .inr (6, [.ref (q 1), .ref (q 2), .ref (q 3), .ref (q 4), .int (gI (sI (sI (sI (sI xb 6 x0) 7 x1) 8 x2) 9 x3) 0), .ref (q 5), .ref (q 6), .int (gI (sI (sI (sI (sI xb 6 x0) 7 x1) 8 x2) 9 x3) 1), .int (gI (sI (sI (sI (sI xb 6 x0) 7 x1) 8 x2) 9 x3) 2), .int (gI (sI (sI (sI (sI xb 6 x0) 7 x1) 8 x2) 9 x3) 3), .int (gI (sI (sI (sI (sI xb 6 x0) 7 x1) 8 x2) 9 x3) 4), .ref (q 7), .ref (q 8), .ref (q 9), .int (gI (sI (sI (sI (sI xb 6 x0) 7 x1) 8 x2) 9 x3) 5), .ref (q 10), .int (gI (sI (sI (sI (sI xb 6 x0) 7 x1) 8 x2) 9 x3) 6), .int (gI (sI (sI (sI (sI xb 6 x0) 7 x1) 8 x2) 9 x3) 7), .int (gI (sI (sI (sI (sI xb 6 x0) 7 x1) 8 x2) 9 x3) 8), .int (gI (sI (sI (sI (sI xb 6 x0) 7 x1) 8 x2) 9 x3) 9), .ref (q 11), .long (gL (sI (sI (sI (sI xb 6 x0) 7 x1) 8 x2) 9 x3) 0), .ref (q 12), .ref (q 13), .ref (q 14), .int (gI (sI (sI (sI (sI xb 6 x0) 7 x1) 8 x2) 9 x3) 10)].set 17 (.int xn))) = WM q cy (sI (sI (sI (sI xb 6 x0) 7 xn) 8 x2) 9 x3) ++ rest := fun _ _ _ _ _ _ => rfl
            have hP : va_P D vwCl (WM q cy (sI (sI (sI (sI u 6 1) 7 (((a1 - 85) / 441) + 1)) 8 ((a1 - 1) - (a1 - 1) / 21 * 21)) 9 (-1)) ++ rest) H := k_wP (hQ u 1 (-1) ((a1 - 1) - (a1 - 1) / 21 * 21) (-1) (((a1 - 85) / 441) + 1)) hP
            have hD : va_D A (WM q cy (sI (sI (sI (sI u 6 1) 7 (((a1 - 85) / 441) + 1)) 8 ((a1 - 1) - (a1 - 1) / 21 * 21)) 9 (-1)) ++ rest) := k_wD (hQ u 1 (-1) ((a1 - 1) - (a1 - 1) / 21 * 21) (-1) (((a1 - 85) / 441) + 1)) hD
            clear hQ
            refine lv_aload_n hx hb dX6_opens_117 rfl (lv_at hl 1 rfl) ?_
            refine lv_iload_n hx hb dX6_opens_118 rfl (lv_at hl 2 rfl) ?_
            refine lv_bipush (v := 85) hx hb dX6_opens_119 (by decide) ?_
            refine lv_isub hx hb dX6_opens_121 ?_
            refine lv_sipush (v := 441) hx hb dX6_opens_122 (by decide) ?_
            refine lv_irem hx hb dX6_opens_125 (by decide) ?_
            refine lv_bipush (v := 21) hx hb dX6_opens_126 (by decide) ?_
            refine lv_idiv hx hb dX6_opens_128 (by decide) ?_
            refine va_put (ci := 6) (v := .int (((a1 - 85) - (a1 - 85) / 441 * 441) / 21)) (ty := .int) (C := RX6) (T := TX6) (N := 26) hx hb hts inlX6 tyX6 tyX6_ok nmX6 hown hE.1 hP hD hS 0 rfl rfl 18 (by decide) (hts _ wB559) (fun _ h9 => h9) rfl (by decide +kernel) rfl rfl (Nat.le_of_ble_eq_true rfl) dX6_opens_129 (fun H locs hP hD hS => ?_)
            have hQ : ∀ (xb : KS) (x0 : Int32) (x1 : Int32) (x2 : Int32) (x3 : Int32) (xn : Int32), (WM q cy (sI (sI (sI (sI xb 6 x0) 7 x1) 8 x2) 9 x3) ++ rest).set 0 (q 0, .inr (6, [.ref (q 1), .ref (q 2), .ref (q 3), .ref (q 4), .int (gI (sI (sI (sI (sI xb 6 x0) 7 x1) 8 x2) 9 x3) 0), .ref (q 5), .ref (q 6), .int (gI (sI (sI (sI (sI xb 6 x0) 7 x1) 8 x2) 9 x3) 1), .int (gI (sI (sI (sI (sI xb 6 x0) 7 x1) 8 x2) 9 x3) 2), .int (gI (sI (sI (sI (sI xb 6 x0) 7 x1) 8 x2) 9 x3) 3), .int (gI (sI (sI (sI (sI xb 6 x0) 7 x1) 8 x2) 9 x3) 4), .ref (q 7), .ref (q 8), .ref (q 9), .int (gI (sI (sI (sI (sI xb 6 x0) 7 x1) 8 x2) 9 x3) 5), .ref (q 10), .int (gI (sI (sI (sI (sI xb 6 x0) 7 x1) 8 x2) 9 x3) 6), .int (gI (sI (sI (sI (sI xb 6 x0) 7 x1) 8 x2) 9 x3) 7), .int (gI (sI (sI (sI (sI xb 6 x0) 7 x1) 8 x2) 9 x3) 8), .int (gI (sI (sI (sI (sI xb 6 x0) 7 x1) 8 x2) 9 x3) 9), .ref (q 11), .long (gL (sI (sI (sI (sI xb 6 x0) 7 x1) 8 x2) 9 x3) 0), .ref (q 12), .ref (q 13), .ref (q 14), .int (gI (sI (sI (sI (sI xb 6 x0) 7 x1) 8 x2) 9 x3) 10)].set 18 (.int xn))) = WM q cy (sI (sI (sI (sI xb 6 x0) 7 x1) 8 xn) 9 x3) ++ rest := fun _ _ _ _ _ _ => rfl
            have hP : va_P D vwCl (WM q cy (sI (sI (sI (sI u 6 1) 7 (((a1 - 85) / 441) + 1)) 8 (((a1 - 85) - (a1 - 85) / 441 * 441) / 21)) 9 (-1)) ++ rest) H := k_wP (hQ u 1 (((a1 - 85) / 441) + 1) ((a1 - 1) - (a1 - 1) / 21 * 21) (-1) (((a1 - 85) - (a1 - 85) / 441 * 441) / 21)) hP
            have hD : va_D A (WM q cy (sI (sI (sI (sI u 6 1) 7 (((a1 - 85) / 441) + 1)) 8 (((a1 - 85) - (a1 - 85) / 441 * 441) / 21)) 9 (-1)) ++ rest) := k_wD (hQ u 1 (((a1 - 85) / 441) + 1) ((a1 - 1) - (a1 - 1) / 21 * 21) (-1) (((a1 - 85) - (a1 - 85) / 441 * 441) / 21)) hD
            clear hQ
            refine lv_aload_n hx hb dX6_opens_132 rfl (lv_at hl 1 rfl) ?_
            refine lv_iload_n hx hb dX6_opens_133 rfl (lv_at hl 2 rfl) ?_
            refine lv_bipush (v := 85) hx hb dX6_opens_134 (by decide) ?_
            refine lv_isub hx hb dX6_opens_136 ?_
            refine lv_bipush (v := 21) hx hb dX6_opens_137 (by decide) ?_
            refine lv_irem hx hb dX6_opens_139 (by decide) ?_
            refine va_put (ci := 6) (v := .int ((a1 - 85) - (a1 - 85) / 21 * 21)) (ty := .int) (C := RX6) (T := TX6) (N := 26) hx hb hts inlX6 tyX6 tyX6_ok nmX6 hown hE.1 hP hD hS 0 rfl rfl 19 (by decide) (hts _ wB561) (fun _ h9 => h9) rfl (by decide +kernel) rfl rfl (Nat.le_of_ble_eq_true rfl) dX6_opens_140 (fun H locs hP hD hS => ?_)
            have hQ : ∀ (xb : KS) (x0 : Int32) (x1 : Int32) (x2 : Int32) (x3 : Int32) (xn : Int32), (WM q cy (sI (sI (sI (sI xb 6 x0) 7 x1) 8 x2) 9 x3) ++ rest).set 0 (q 0, .inr (6, [.ref (q 1), .ref (q 2), .ref (q 3), .ref (q 4), .int (gI (sI (sI (sI (sI xb 6 x0) 7 x1) 8 x2) 9 x3) 0), .ref (q 5), .ref (q 6), .int (gI (sI (sI (sI (sI xb 6 x0) 7 x1) 8 x2) 9 x3) 1), .int (gI (sI (sI (sI (sI xb 6 x0) 7 x1) 8 x2) 9 x3) 2), .int (gI (sI (sI (sI (sI xb 6 x0) 7 x1) 8 x2) 9 x3) 3), .int (gI (sI (sI (sI (sI xb 6 x0) 7 x1) 8 x2) 9 x3) 4), .ref (q 7), .ref (q 8), .ref (q 9), .int (gI (sI (sI (sI (sI xb 6 x0) 7 x1) 8 x2) 9 x3) 5), .ref (q 10), .int (gI (sI (sI (sI (sI xb 6 x0) 7 x1) 8 x2) 9 x3) 6), .int (gI (sI (sI (sI (sI xb 6 x0) 7 x1) 8 x2) 9 x3) 7), .int (gI (sI (sI (sI (sI xb 6 x0) 7 x1) 8 x2) 9 x3) 8), .int (gI (sI (sI (sI (sI xb 6 x0) 7 x1) 8 x2) 9 x3) 9), .ref (q 11), .long (gL (sI (sI (sI (sI xb 6 x0) 7 x1) 8 x2) 9 x3) 0), .ref (q 12), .ref (q 13), .ref (q 14), .int (gI (sI (sI (sI (sI xb 6 x0) 7 x1) 8 x2) 9 x3) 10)].set 19 (.int xn))) = WM q cy (sI (sI (sI (sI xb 6 x0) 7 x1) 8 x2) 9 xn) ++ rest := fun _ _ _ _ _ _ => rfl
            have hP : va_P D vwCl (WM q cy (sI (sI (sI (sI u 6 1) 7 (((a1 - 85) / 441) + 1)) 8 (((a1 - 85) - (a1 - 85) / 441 * 441) / 21)) 9 ((a1 - 85) - (a1 - 85) / 21 * 21)) ++ rest) H := k_wP (hQ u 1 (((a1 - 85) / 441) + 1) (((a1 - 85) - (a1 - 85) / 441 * 441) / 21) (-1) ((a1 - 85) - (a1 - 85) / 21 * 21)) hP
            have hD : va_D A (WM q cy (sI (sI (sI (sI u 6 1) 7 (((a1 - 85) / 441) + 1)) 8 (((a1 - 85) - (a1 - 85) / 441 * 441) / 21)) 9 ((a1 - 85) - (a1 - 85) / 21 * 21)) ++ rest) := k_wD (hQ u 1 (((a1 - 85) / 441) + 1) (((a1 - 85) - (a1 - 85) / 441 * 441) / 21) (-1) ((a1 - 85) - (a1 - 85) / 21 * 21)) hD
            clear hQ
            obtain rfl := o_ret hf
            exact k_vret hx hb hr hP hD hS (Nat.zero_le _) (Nat.zero_le _) hlocks dX6_opens_143
      · have hf := o_in c70 hf
        refine lv_iconst (v := 0) hx hb dX6_opens_73 (by decide) ?_
        refine lv_goto (tgt := 87) hx hb dX6_opens_74 (by decide) ?_
        refine va_put (ci := 6) (v := .int 0) (ty := .int) (C := RX6) (T := TX6) (N := 26) hx hb hts inlX6 tyX6 tyX6_ok nmX6 hown hE.1 hP hD hS 0 rfl rfl 16 (by decide) (hts _ wB558) (fun _ h9 => h9) rfl (by decide +kernel) rfl rfl (Nat.le_of_ble_eq_true rfl) dX6_opens_87 (fun H locs hP hD hS => ?_)
        have hQ : ∀ (xb : KS) (x0 : Int32) (x1 : Int32) (x2 : Int32) (x3 : Int32) (xn : Int32), (WM q cy (sI (sI (sI (sI xb 6 x0) 7 x1) 8 x2) 9 x3) ++ rest).set 0 (q 0, .inr (6, [.ref (q 1), .ref (q 2), .ref (q 3), .ref (q 4), .int (gI (sI (sI (sI (sI xb 6 x0) 7 x1) 8 x2) 9 x3) 0), .ref (q 5), .ref (q 6), .int (gI (sI (sI (sI (sI xb 6 x0) 7 x1) 8 x2) 9 x3) 1), .int (gI (sI (sI (sI (sI xb 6 x0) 7 x1) 8 x2) 9 x3) 2), .int (gI (sI (sI (sI (sI xb 6 x0) 7 x1) 8 x2) 9 x3) 3), .int (gI (sI (sI (sI (sI xb 6 x0) 7 x1) 8 x2) 9 x3) 4), .ref (q 7), .ref (q 8), .ref (q 9), .int (gI (sI (sI (sI (sI xb 6 x0) 7 x1) 8 x2) 9 x3) 5), .ref (q 10), .int (gI (sI (sI (sI (sI xb 6 x0) 7 x1) 8 x2) 9 x3) 6), .int (gI (sI (sI (sI (sI xb 6 x0) 7 x1) 8 x2) 9 x3) 7), .int (gI (sI (sI (sI (sI xb 6 x0) 7 x1) 8 x2) 9 x3) 8), .int (gI (sI (sI (sI (sI xb 6 x0) 7 x1) 8 x2) 9 x3) 9), .ref (q 11), .long (gL (sI (sI (sI (sI xb 6 x0) 7 x1) 8 x2) 9 x3) 0), .ref (q 12), .ref (q 13), .ref (q 14), .int (gI (sI (sI (sI (sI xb 6 x0) 7 x1) 8 x2) 9 x3) 10)].set 16 (.int xn))) = WM q cy (sI (sI (sI (sI xb 6 xn) 7 x1) 8 x2) 9 x3) ++ rest := fun _ _ _ _ _ _ => rfl
        have hP : va_P D vwCl (WM q cy (sI (sI (sI (sI u 6 0) 7 (-1)) 8 ((a1 - 1) - (a1 - 1) / 21 * 21)) 9 (-1)) ++ rest) H := k_wP (hQ u ((a1 - 1) / 21) (-1) ((a1 - 1) - (a1 - 1) / 21 * 21) (-1) 0) hP
        have hD : va_D A (WM q cy (sI (sI (sI (sI u 6 0) 7 (-1)) 8 ((a1 - 1) - (a1 - 1) / 21 * 21)) 9 (-1)) ++ rest) := k_wD (hQ u ((a1 - 1) / 21) (-1) ((a1 - 1) - (a1 - 1) / 21 * 21) (-1) 0) hD
        clear hQ
        refine lv_aload_n hx hb dX6_opens_90 rfl (lv_at hl 1 rfl) ?_
        refine lv_iload_n hx hb dX6_opens_91 rfl (lv_at hl 0 rfl) ?_
        refine lv_iconst (v := 3) hx hb dX6_opens_92 (by decide) ?_
        refine lv_icmp_ge (tgt := 102) hx hb dX6_opens_93 (by decide) (fun c93 => ?_) (fun c93 => ?_)
        · have hf := o_ip c93 hf
          refine lv_iload_n hx hb dX6_opens_102 rfl (lv_at hl 0 rfl) ?_
          refine lv_iconst (v := 5) hx hb dX6_opens_103 (by decide) ?_
          refine lv_icmp_ge (tgt := 113) hx hb dX6_opens_104 (by decide) (fun c104 => ?_) (fun c104 => ?_)
          · have hf := o_ip c104 hf
            refine lv_iconst (v := 3) hx hb dX6_opens_113 (by decide) ?_
            refine va_put (ci := 6) (v := .int 3) (ty := .int) (C := RX6) (T := TX6) (N := 26) hx hb hts inlX6 tyX6 tyX6_ok nmX6 hown hE.1 hP hD hS 0 rfl rfl 17 (by decide) (hts _ wB560) (fun _ h9 => h9) rfl (by decide +kernel) rfl rfl (Nat.le_of_ble_eq_true rfl) dX6_opens_114 (fun H locs hP hD hS => ?_)
            have hQ : ∀ (xb : KS) (x0 : Int32) (x1 : Int32) (x2 : Int32) (x3 : Int32) (xn : Int32), (WM q cy (sI (sI (sI (sI xb 6 x0) 7 x1) 8 x2) 9 x3) ++ rest).set 0 (q 0, .inr (6, [.ref (q 1), .ref (q 2), .ref (q 3), .ref (q 4), .int (gI (sI (sI (sI (sI xb 6 x0) 7 x1) 8 x2) 9 x3) 0), .ref (q 5), .ref (q 6), .int (gI (sI (sI (sI (sI xb 6 x0) 7 x1) 8 x2) 9 x3) 1), .int (gI (sI (sI (sI (sI xb 6 x0) 7 x1) 8 x2) 9 x3) 2), .int (gI (sI (sI (sI (sI xb 6 x0) 7 x1) 8 x2) 9 x3) 3), .int (gI (sI (sI (sI (sI xb 6 x0) 7 x1) 8 x2) 9 x3) 4), .ref (q 7), .ref (q 8), .ref (q 9), .int (gI (sI (sI (sI (sI xb 6 x0) 7 x1) 8 x2) 9 x3) 5), .ref (q 10), .int (gI (sI (sI (sI (sI xb 6 x0) 7 x1) 8 x2) 9 x3) 6), .int (gI (sI (sI (sI (sI xb 6 x0) 7 x1) 8 x2) 9 x3) 7), .int (gI (sI (sI (sI (sI xb 6 x0) 7 x1) 8 x2) 9 x3) 8), .int (gI (sI (sI (sI (sI xb 6 x0) 7 x1) 8 x2) 9 x3) 9), .ref (q 11), .long (gL (sI (sI (sI (sI xb 6 x0) 7 x1) 8 x2) 9 x3) 0), .ref (q 12), .ref (q 13), .ref (q 14), .int (gI (sI (sI (sI (sI xb 6 x0) 7 x1) 8 x2) 9 x3) 10)].set 17 (.int xn))) = WM q cy (sI (sI (sI (sI xb 6 x0) 7 xn) 8 x2) 9 x3) ++ rest := fun _ _ _ _ _ _ => rfl
            have hP : va_P D vwCl (WM q cy (sI (sI (sI (sI u 6 0) 7 3) 8 ((a1 - 1) - (a1 - 1) / 21 * 21)) 9 (-1)) ++ rest) H := k_wP (hQ u 0 (-1) ((a1 - 1) - (a1 - 1) / 21 * 21) (-1) 3) hP
            have hD : va_D A (WM q cy (sI (sI (sI (sI u 6 0) 7 3) 8 ((a1 - 1) - (a1 - 1) / 21 * 21)) 9 (-1)) ++ rest) := k_wD (hQ u 0 (-1) ((a1 - 1) - (a1 - 1) / 21 * 21) (-1) 3) hD
            clear hQ
            refine lv_aload_n hx hb dX6_opens_117 rfl (lv_at hl 1 rfl) ?_
            refine lv_iload_n hx hb dX6_opens_118 rfl (lv_at hl 2 rfl) ?_
            refine lv_bipush (v := 85) hx hb dX6_opens_119 (by decide) ?_
            refine lv_isub hx hb dX6_opens_121 ?_
            refine lv_sipush (v := 441) hx hb dX6_opens_122 (by decide) ?_
            refine lv_irem hx hb dX6_opens_125 (by decide) ?_
            refine lv_bipush (v := 21) hx hb dX6_opens_126 (by decide) ?_
            refine lv_idiv hx hb dX6_opens_128 (by decide) ?_
            refine va_put (ci := 6) (v := .int (((a1 - 85) - (a1 - 85) / 441 * 441) / 21)) (ty := .int) (C := RX6) (T := TX6) (N := 26) hx hb hts inlX6 tyX6 tyX6_ok nmX6 hown hE.1 hP hD hS 0 rfl rfl 18 (by decide) (hts _ wB559) (fun _ h9 => h9) rfl (by decide +kernel) rfl rfl (Nat.le_of_ble_eq_true rfl) dX6_opens_129 (fun H locs hP hD hS => ?_)
            have hQ : ∀ (xb : KS) (x0 : Int32) (x1 : Int32) (x2 : Int32) (x3 : Int32) (xn : Int32), (WM q cy (sI (sI (sI (sI xb 6 x0) 7 x1) 8 x2) 9 x3) ++ rest).set 0 (q 0, .inr (6, [.ref (q 1), .ref (q 2), .ref (q 3), .ref (q 4), .int (gI (sI (sI (sI (sI xb 6 x0) 7 x1) 8 x2) 9 x3) 0), .ref (q 5), .ref (q 6), .int (gI (sI (sI (sI (sI xb 6 x0) 7 x1) 8 x2) 9 x3) 1), .int (gI (sI (sI (sI (sI xb 6 x0) 7 x1) 8 x2) 9 x3) 2), .int (gI (sI (sI (sI (sI xb 6 x0) 7 x1) 8 x2) 9 x3) 3), .int (gI (sI (sI (sI (sI xb 6 x0) 7 x1) 8 x2) 9 x3) 4), .ref (q 7), .ref (q 8), .ref (q 9), .int (gI (sI (sI (sI (sI xb 6 x0) 7 x1) 8 x2) 9 x3) 5), .ref (q 10), .int (gI (sI (sI (sI (sI xb 6 x0) 7 x1) 8 x2) 9 x3) 6), .int (gI (sI (sI (sI (sI xb 6 x0) 7 x1) 8 x2) 9 x3) 7), .int (gI (sI (sI (sI (sI xb 6 x0) 7 x1) 8 x2) 9 x3) 8), .int (gI (sI (sI (sI (sI xb 6 x0) 7 x1) 8 x2) 9 x3) 9), .ref (q 11), .long (gL (sI (sI (sI (sI xb 6 x0) 7 x1) 8 x2) 9 x3) 0), .ref (q 12), .ref (q 13), .ref (q 14), .int (gI (sI (sI (sI (sI xb 6 x0) 7 x1) 8 x2) 9 x3) 10)].set 18 (.int xn))) = WM q cy (sI (sI (sI (sI xb 6 x0) 7 x1) 8 xn) 9 x3) ++ rest := fun _ _ _ _ _ _ => rfl
            have hP : va_P D vwCl (WM q cy (sI (sI (sI (sI u 6 0) 7 3) 8 (((a1 - 85) - (a1 - 85) / 441 * 441) / 21)) 9 (-1)) ++ rest) H := k_wP (hQ u 0 3 ((a1 - 1) - (a1 - 1) / 21 * 21) (-1) (((a1 - 85) - (a1 - 85) / 441 * 441) / 21)) hP
            have hD : va_D A (WM q cy (sI (sI (sI (sI u 6 0) 7 3) 8 (((a1 - 85) - (a1 - 85) / 441 * 441) / 21)) 9 (-1)) ++ rest) := k_wD (hQ u 0 3 ((a1 - 1) - (a1 - 1) / 21 * 21) (-1) (((a1 - 85) - (a1 - 85) / 441 * 441) / 21)) hD
            clear hQ
            refine lv_aload_n hx hb dX6_opens_132 rfl (lv_at hl 1 rfl) ?_
            refine lv_iload_n hx hb dX6_opens_133 rfl (lv_at hl 2 rfl) ?_
            refine lv_bipush (v := 85) hx hb dX6_opens_134 (by decide) ?_
            refine lv_isub hx hb dX6_opens_136 ?_
            refine lv_bipush (v := 21) hx hb dX6_opens_137 (by decide) ?_
            refine lv_irem hx hb dX6_opens_139 (by decide) ?_
            refine va_put (ci := 6) (v := .int ((a1 - 85) - (a1 - 85) / 21 * 21)) (ty := .int) (C := RX6) (T := TX6) (N := 26) hx hb hts inlX6 tyX6 tyX6_ok nmX6 hown hE.1 hP hD hS 0 rfl rfl 19 (by decide) (hts _ wB561) (fun _ h9 => h9) rfl (by decide +kernel) rfl rfl (Nat.le_of_ble_eq_true rfl) dX6_opens_140 (fun H locs hP hD hS => ?_)
            have hQ : ∀ (xb : KS) (x0 : Int32) (x1 : Int32) (x2 : Int32) (x3 : Int32) (xn : Int32), (WM q cy (sI (sI (sI (sI xb 6 x0) 7 x1) 8 x2) 9 x3) ++ rest).set 0 (q 0, .inr (6, [.ref (q 1), .ref (q 2), .ref (q 3), .ref (q 4), .int (gI (sI (sI (sI (sI xb 6 x0) 7 x1) 8 x2) 9 x3) 0), .ref (q 5), .ref (q 6), .int (gI (sI (sI (sI (sI xb 6 x0) 7 x1) 8 x2) 9 x3) 1), .int (gI (sI (sI (sI (sI xb 6 x0) 7 x1) 8 x2) 9 x3) 2), .int (gI (sI (sI (sI (sI xb 6 x0) 7 x1) 8 x2) 9 x3) 3), .int (gI (sI (sI (sI (sI xb 6 x0) 7 x1) 8 x2) 9 x3) 4), .ref (q 7), .ref (q 8), .ref (q 9), .int (gI (sI (sI (sI (sI xb 6 x0) 7 x1) 8 x2) 9 x3) 5), .ref (q 10), .int (gI (sI (sI (sI (sI xb 6 x0) 7 x1) 8 x2) 9 x3) 6), .int (gI (sI (sI (sI (sI xb 6 x0) 7 x1) 8 x2) 9 x3) 7), .int (gI (sI (sI (sI (sI xb 6 x0) 7 x1) 8 x2) 9 x3) 8), .int (gI (sI (sI (sI (sI xb 6 x0) 7 x1) 8 x2) 9 x3) 9), .ref (q 11), .long (gL (sI (sI (sI (sI xb 6 x0) 7 x1) 8 x2) 9 x3) 0), .ref (q 12), .ref (q 13), .ref (q 14), .int (gI (sI (sI (sI (sI xb 6 x0) 7 x1) 8 x2) 9 x3) 10)].set 19 (.int xn))) = WM q cy (sI (sI (sI (sI xb 6 x0) 7 x1) 8 x2) 9 xn) ++ rest := fun _ _ _ _ _ _ => rfl
            have hP : va_P D vwCl (WM q cy (sI (sI (sI (sI u 6 0) 7 3) 8 (((a1 - 85) - (a1 - 85) / 441 * 441) / 21)) 9 ((a1 - 85) - (a1 - 85) / 21 * 21)) ++ rest) H := k_wP (hQ u 0 3 (((a1 - 85) - (a1 - 85) / 441 * 441) / 21) (-1) ((a1 - 85) - (a1 - 85) / 21 * 21)) hP
            have hD : va_D A (WM q cy (sI (sI (sI (sI u 6 0) 7 3) 8 (((a1 - 85) - (a1 - 85) / 441 * 441) / 21)) 9 ((a1 - 85) - (a1 - 85) / 21 * 21)) ++ rest) := k_wD (hQ u 0 3 (((a1 - 85) - (a1 - 85) / 441 * 441) / 21) (-1) ((a1 - 85) - (a1 - 85) / 21 * 21)) hD
            clear hQ
            obtain rfl := o_ret hf
            exact k_vret hx hb hr hP hD hS (Nat.zero_le _) (Nat.zero_le _) hlocks dX6_opens_143
          · have hf := o_in c104 hf
            refine lv_iload_n hx hb dX6_opens_107 rfl (lv_at hl 0 rfl) ?_
            refine lv_iconst (v := 1) hx hb dX6_opens_108 (by decide) ?_
            refine lv_isub hx hb dX6_opens_109 ?_
            refine lv_goto (tgt := 114) hx hb dX6_opens_110 (by decide) ?_
            refine va_put (ci := 6) (v := .int (((a1 - 85) / 441) - 1)) (ty := .int) (C := RX6) (T := TX6) (N := 26) hx hb hts inlX6 tyX6 tyX6_ok nmX6 hown hE.1 hP hD hS 0 rfl rfl 17 (by decide) (hts _ wB560) (fun _ h9 => h9) rfl (by decide +kernel) rfl rfl (Nat.le_of_ble_eq_true rfl) dX6_opens_114 (fun H locs hP hD hS => ?_)
            have hQ : ∀ (xb : KS) (x0 : Int32) (x1 : Int32) (x2 : Int32) (x3 : Int32) (xn : Int32), (WM q cy (sI (sI (sI (sI xb 6 x0) 7 x1) 8 x2) 9 x3) ++ rest).set 0 (q 0, .inr (6, [.ref (q 1), .ref (q 2), .ref (q 3), .ref (q 4), .int (gI (sI (sI (sI (sI xb 6 x0) 7 x1) 8 x2) 9 x3) 0), .ref (q 5), .ref (q 6), .int (gI (sI (sI (sI (sI xb 6 x0) 7 x1) 8 x2) 9 x3) 1), .int (gI (sI (sI (sI (sI xb 6 x0) 7 x1) 8 x2) 9 x3) 2), .int (gI (sI (sI (sI (sI xb 6 x0) 7 x1) 8 x2) 9 x3) 3), .int (gI (sI (sI (sI (sI xb 6 x0) 7 x1) 8 x2) 9 x3) 4), .ref (q 7), .ref (q 8), .ref (q 9), .int (gI (sI (sI (sI (sI xb 6 x0) 7 x1) 8 x2) 9 x3) 5), .ref (q 10), .int (gI (sI (sI (sI (sI xb 6 x0) 7 x1) 8 x2) 9 x3) 6), .int (gI (sI (sI (sI (sI xb 6 x0) 7 x1) 8 x2) 9 x3) 7), .int (gI (sI (sI (sI (sI xb 6 x0) 7 x1) 8 x2) 9 x3) 8), .int (gI (sI (sI (sI (sI xb 6 x0) 7 x1) 8 x2) 9 x3) 9), .ref (q 11), .long (gL (sI (sI (sI (sI xb 6 x0) 7 x1) 8 x2) 9 x3) 0), .ref (q 12), .ref (q 13), .ref (q 14), .int (gI (sI (sI (sI (sI xb 6 x0) 7 x1) 8 x2) 9 x3) 10)].set 17 (.int xn))) = WM q cy (sI (sI (sI (sI xb 6 x0) 7 xn) 8 x2) 9 x3) ++ rest := fun _ _ _ _ _ _ => rfl
            have hP : va_P D vwCl (WM q cy (sI (sI (sI (sI u 6 0) 7 (((a1 - 85) / 441) - 1)) 8 ((a1 - 1) - (a1 - 1) / 21 * 21)) 9 (-1)) ++ rest) H := k_wP (hQ u 0 (-1) ((a1 - 1) - (a1 - 1) / 21 * 21) (-1) (((a1 - 85) / 441) - 1)) hP
            have hD : va_D A (WM q cy (sI (sI (sI (sI u 6 0) 7 (((a1 - 85) / 441) - 1)) 8 ((a1 - 1) - (a1 - 1) / 21 * 21)) 9 (-1)) ++ rest) := k_wD (hQ u 0 (-1) ((a1 - 1) - (a1 - 1) / 21 * 21) (-1) (((a1 - 85) / 441) - 1)) hD
            clear hQ
            refine lv_aload_n hx hb dX6_opens_117 rfl (lv_at hl 1 rfl) ?_
            refine lv_iload_n hx hb dX6_opens_118 rfl (lv_at hl 2 rfl) ?_
            refine lv_bipush (v := 85) hx hb dX6_opens_119 (by decide) ?_
            refine lv_isub hx hb dX6_opens_121 ?_
            refine lv_sipush (v := 441) hx hb dX6_opens_122 (by decide) ?_
            refine lv_irem hx hb dX6_opens_125 (by decide) ?_
            refine lv_bipush (v := 21) hx hb dX6_opens_126 (by decide) ?_
            refine lv_idiv hx hb dX6_opens_128 (by decide) ?_
            refine va_put (ci := 6) (v := .int (((a1 - 85) - (a1 - 85) / 441 * 441) / 21)) (ty := .int) (C := RX6) (T := TX6) (N := 26) hx hb hts inlX6 tyX6 tyX6_ok nmX6 hown hE.1 hP hD hS 0 rfl rfl 18 (by decide) (hts _ wB559) (fun _ h9 => h9) rfl (by decide +kernel) rfl rfl (Nat.le_of_ble_eq_true rfl) dX6_opens_129 (fun H locs hP hD hS => ?_)
            have hQ : ∀ (xb : KS) (x0 : Int32) (x1 : Int32) (x2 : Int32) (x3 : Int32) (xn : Int32), (WM q cy (sI (sI (sI (sI xb 6 x0) 7 x1) 8 x2) 9 x3) ++ rest).set 0 (q 0, .inr (6, [.ref (q 1), .ref (q 2), .ref (q 3), .ref (q 4), .int (gI (sI (sI (sI (sI xb 6 x0) 7 x1) 8 x2) 9 x3) 0), .ref (q 5), .ref (q 6), .int (gI (sI (sI (sI (sI xb 6 x0) 7 x1) 8 x2) 9 x3) 1), .int (gI (sI (sI (sI (sI xb 6 x0) 7 x1) 8 x2) 9 x3) 2), .int (gI (sI (sI (sI (sI xb 6 x0) 7 x1) 8 x2) 9 x3) 3), .int (gI (sI (sI (sI (sI xb 6 x0) 7 x1) 8 x2) 9 x3) 4), .ref (q 7), .ref (q 8), .ref (q 9), .int (gI (sI (sI (sI (sI xb 6 x0) 7 x1) 8 x2) 9 x3) 5), .ref (q 10), .int (gI (sI (sI (sI (sI xb 6 x0) 7 x1) 8 x2) 9 x3) 6), .int (gI (sI (sI (sI (sI xb 6 x0) 7 x1) 8 x2) 9 x3) 7), .int (gI (sI (sI (sI (sI xb 6 x0) 7 x1) 8 x2) 9 x3) 8), .int (gI (sI (sI (sI (sI xb 6 x0) 7 x1) 8 x2) 9 x3) 9), .ref (q 11), .long (gL (sI (sI (sI (sI xb 6 x0) 7 x1) 8 x2) 9 x3) 0), .ref (q 12), .ref (q 13), .ref (q 14), .int (gI (sI (sI (sI (sI xb 6 x0) 7 x1) 8 x2) 9 x3) 10)].set 18 (.int xn))) = WM q cy (sI (sI (sI (sI xb 6 x0) 7 x1) 8 xn) 9 x3) ++ rest := fun _ _ _ _ _ _ => rfl
            have hP : va_P D vwCl (WM q cy (sI (sI (sI (sI u 6 0) 7 (((a1 - 85) / 441) - 1)) 8 (((a1 - 85) - (a1 - 85) / 441 * 441) / 21)) 9 (-1)) ++ rest) H := k_wP (hQ u 0 (((a1 - 85) / 441) - 1) ((a1 - 1) - (a1 - 1) / 21 * 21) (-1) (((a1 - 85) - (a1 - 85) / 441 * 441) / 21)) hP
            have hD : va_D A (WM q cy (sI (sI (sI (sI u 6 0) 7 (((a1 - 85) / 441) - 1)) 8 (((a1 - 85) - (a1 - 85) / 441 * 441) / 21)) 9 (-1)) ++ rest) := k_wD (hQ u 0 (((a1 - 85) / 441) - 1) ((a1 - 1) - (a1 - 1) / 21 * 21) (-1) (((a1 - 85) - (a1 - 85) / 441 * 441) / 21)) hD
            clear hQ
            refine lv_aload_n hx hb dX6_opens_132 rfl (lv_at hl 1 rfl) ?_
            refine lv_iload_n hx hb dX6_opens_133 rfl (lv_at hl 2 rfl) ?_
            refine lv_bipush (v := 85) hx hb dX6_opens_134 (by decide) ?_
            refine lv_isub hx hb dX6_opens_136 ?_
            refine lv_bipush (v := 21) hx hb dX6_opens_137 (by decide) ?_
            refine lv_irem hx hb dX6_opens_139 (by decide) ?_
            refine va_put (ci := 6) (v := .int ((a1 - 85) - (a1 - 85) / 21 * 21)) (ty := .int) (C := RX6) (T := TX6) (N := 26) hx hb hts inlX6 tyX6 tyX6_ok nmX6 hown hE.1 hP hD hS 0 rfl rfl 19 (by decide) (hts _ wB561) (fun _ h9 => h9) rfl (by decide +kernel) rfl rfl (Nat.le_of_ble_eq_true rfl) dX6_opens_140 (fun H locs hP hD hS => ?_)
            have hQ : ∀ (xb : KS) (x0 : Int32) (x1 : Int32) (x2 : Int32) (x3 : Int32) (xn : Int32), (WM q cy (sI (sI (sI (sI xb 6 x0) 7 x1) 8 x2) 9 x3) ++ rest).set 0 (q 0, .inr (6, [.ref (q 1), .ref (q 2), .ref (q 3), .ref (q 4), .int (gI (sI (sI (sI (sI xb 6 x0) 7 x1) 8 x2) 9 x3) 0), .ref (q 5), .ref (q 6), .int (gI (sI (sI (sI (sI xb 6 x0) 7 x1) 8 x2) 9 x3) 1), .int (gI (sI (sI (sI (sI xb 6 x0) 7 x1) 8 x2) 9 x3) 2), .int (gI (sI (sI (sI (sI xb 6 x0) 7 x1) 8 x2) 9 x3) 3), .int (gI (sI (sI (sI (sI xb 6 x0) 7 x1) 8 x2) 9 x3) 4), .ref (q 7), .ref (q 8), .ref (q 9), .int (gI (sI (sI (sI (sI xb 6 x0) 7 x1) 8 x2) 9 x3) 5), .ref (q 10), .int (gI (sI (sI (sI (sI xb 6 x0) 7 x1) 8 x2) 9 x3) 6), .int (gI (sI (sI (sI (sI xb 6 x0) 7 x1) 8 x2) 9 x3) 7), .int (gI (sI (sI (sI (sI xb 6 x0) 7 x1) 8 x2) 9 x3) 8), .int (gI (sI (sI (sI (sI xb 6 x0) 7 x1) 8 x2) 9 x3) 9), .ref (q 11), .long (gL (sI (sI (sI (sI xb 6 x0) 7 x1) 8 x2) 9 x3) 0), .ref (q 12), .ref (q 13), .ref (q 14), .int (gI (sI (sI (sI (sI xb 6 x0) 7 x1) 8 x2) 9 x3) 10)].set 19 (.int xn))) = WM q cy (sI (sI (sI (sI xb 6 x0) 7 x1) 8 x2) 9 xn) ++ rest := fun _ _ _ _ _ _ => rfl
            have hP : va_P D vwCl (WM q cy (sI (sI (sI (sI u 6 0) 7 (((a1 - 85) / 441) - 1)) 8 (((a1 - 85) - (a1 - 85) / 441 * 441) / 21)) 9 ((a1 - 85) - (a1 - 85) / 21 * 21)) ++ rest) H := k_wP (hQ u 0 (((a1 - 85) / 441) - 1) (((a1 - 85) - (a1 - 85) / 441 * 441) / 21) (-1) ((a1 - 85) - (a1 - 85) / 21 * 21)) hP
            have hD : va_D A (WM q cy (sI (sI (sI (sI u 6 0) 7 (((a1 - 85) / 441) - 1)) 8 (((a1 - 85) - (a1 - 85) / 441 * 441) / 21)) 9 ((a1 - 85) - (a1 - 85) / 21 * 21)) ++ rest) := k_wD (hQ u 0 (((a1 - 85) / 441) - 1) (((a1 - 85) - (a1 - 85) / 441 * 441) / 21) (-1) ((a1 - 85) - (a1 - 85) / 21 * 21)) hD
            clear hQ
            obtain rfl := o_ret hf
            exact k_vret hx hb hr hP hD hS (Nat.zero_le _) (Nat.zero_le _) hlocks dX6_opens_143
        · have hf := o_in c93 hf
          refine lv_iload_n hx hb dX6_opens_96 rfl (lv_at hl 0 rfl) ?_
          refine lv_iconst (v := 1) hx hb dX6_opens_97 (by decide) ?_
          refine lv_iadd hx hb dX6_opens_98 ?_
          refine lv_goto (tgt := 114) hx hb dX6_opens_99 (by decide) ?_
          refine va_put (ci := 6) (v := .int (((a1 - 85) / 441) + 1)) (ty := .int) (C := RX6) (T := TX6) (N := 26) hx hb hts inlX6 tyX6 tyX6_ok nmX6 hown hE.1 hP hD hS 0 rfl rfl 17 (by decide) (hts _ wB560) (fun _ h9 => h9) rfl (by decide +kernel) rfl rfl (Nat.le_of_ble_eq_true rfl) dX6_opens_114 (fun H locs hP hD hS => ?_)
          have hQ : ∀ (xb : KS) (x0 : Int32) (x1 : Int32) (x2 : Int32) (x3 : Int32) (xn : Int32), (WM q cy (sI (sI (sI (sI xb 6 x0) 7 x1) 8 x2) 9 x3) ++ rest).set 0 (q 0, .inr (6, [.ref (q 1), .ref (q 2), .ref (q 3), .ref (q 4), .int (gI (sI (sI (sI (sI xb 6 x0) 7 x1) 8 x2) 9 x3) 0), .ref (q 5), .ref (q 6), .int (gI (sI (sI (sI (sI xb 6 x0) 7 x1) 8 x2) 9 x3) 1), .int (gI (sI (sI (sI (sI xb 6 x0) 7 x1) 8 x2) 9 x3) 2), .int (gI (sI (sI (sI (sI xb 6 x0) 7 x1) 8 x2) 9 x3) 3), .int (gI (sI (sI (sI (sI xb 6 x0) 7 x1) 8 x2) 9 x3) 4), .ref (q 7), .ref (q 8), .ref (q 9), .int (gI (sI (sI (sI (sI xb 6 x0) 7 x1) 8 x2) 9 x3) 5), .ref (q 10), .int (gI (sI (sI (sI (sI xb 6 x0) 7 x1) 8 x2) 9 x3) 6), .int (gI (sI (sI (sI (sI xb 6 x0) 7 x1) 8 x2) 9 x3) 7), .int (gI (sI (sI (sI (sI xb 6 x0) 7 x1) 8 x2) 9 x3) 8), .int (gI (sI (sI (sI (sI xb 6 x0) 7 x1) 8 x2) 9 x3) 9), .ref (q 11), .long (gL (sI (sI (sI (sI xb 6 x0) 7 x1) 8 x2) 9 x3) 0), .ref (q 12), .ref (q 13), .ref (q 14), .int (gI (sI (sI (sI (sI xb 6 x0) 7 x1) 8 x2) 9 x3) 10)].set 17 (.int xn))) = WM q cy (sI (sI (sI (sI xb 6 x0) 7 xn) 8 x2) 9 x3) ++ rest := fun _ _ _ _ _ _ => rfl
          have hP : va_P D vwCl (WM q cy (sI (sI (sI (sI u 6 0) 7 (((a1 - 85) / 441) + 1)) 8 ((a1 - 1) - (a1 - 1) / 21 * 21)) 9 (-1)) ++ rest) H := k_wP (hQ u 0 (-1) ((a1 - 1) - (a1 - 1) / 21 * 21) (-1) (((a1 - 85) / 441) + 1)) hP
          have hD : va_D A (WM q cy (sI (sI (sI (sI u 6 0) 7 (((a1 - 85) / 441) + 1)) 8 ((a1 - 1) - (a1 - 1) / 21 * 21)) 9 (-1)) ++ rest) := k_wD (hQ u 0 (-1) ((a1 - 1) - (a1 - 1) / 21 * 21) (-1) (((a1 - 85) / 441) + 1)) hD
          clear hQ
          refine lv_aload_n hx hb dX6_opens_117 rfl (lv_at hl 1 rfl) ?_
          refine lv_iload_n hx hb dX6_opens_118 rfl (lv_at hl 2 rfl) ?_
          refine lv_bipush (v := 85) hx hb dX6_opens_119 (by decide) ?_
          refine lv_isub hx hb dX6_opens_121 ?_
          refine lv_sipush (v := 441) hx hb dX6_opens_122 (by decide) ?_
          refine lv_irem hx hb dX6_opens_125 (by decide) ?_
          refine lv_bipush (v := 21) hx hb dX6_opens_126 (by decide) ?_
          refine lv_idiv hx hb dX6_opens_128 (by decide) ?_
          refine va_put (ci := 6) (v := .int (((a1 - 85) - (a1 - 85) / 441 * 441) / 21)) (ty := .int) (C := RX6) (T := TX6) (N := 26) hx hb hts inlX6 tyX6 tyX6_ok nmX6 hown hE.1 hP hD hS 0 rfl rfl 18 (by decide) (hts _ wB559) (fun _ h9 => h9) rfl (by decide +kernel) rfl rfl (Nat.le_of_ble_eq_true rfl) dX6_opens_129 (fun H locs hP hD hS => ?_)
          have hQ : ∀ (xb : KS) (x0 : Int32) (x1 : Int32) (x2 : Int32) (x3 : Int32) (xn : Int32), (WM q cy (sI (sI (sI (sI xb 6 x0) 7 x1) 8 x2) 9 x3) ++ rest).set 0 (q 0, .inr (6, [.ref (q 1), .ref (q 2), .ref (q 3), .ref (q 4), .int (gI (sI (sI (sI (sI xb 6 x0) 7 x1) 8 x2) 9 x3) 0), .ref (q 5), .ref (q 6), .int (gI (sI (sI (sI (sI xb 6 x0) 7 x1) 8 x2) 9 x3) 1), .int (gI (sI (sI (sI (sI xb 6 x0) 7 x1) 8 x2) 9 x3) 2), .int (gI (sI (sI (sI (sI xb 6 x0) 7 x1) 8 x2) 9 x3) 3), .int (gI (sI (sI (sI (sI xb 6 x0) 7 x1) 8 x2) 9 x3) 4), .ref (q 7), .ref (q 8), .ref (q 9), .int (gI (sI (sI (sI (sI xb 6 x0) 7 x1) 8 x2) 9 x3) 5), .ref (q 10), .int (gI (sI (sI (sI (sI xb 6 x0) 7 x1) 8 x2) 9 x3) 6), .int (gI (sI (sI (sI (sI xb 6 x0) 7 x1) 8 x2) 9 x3) 7), .int (gI (sI (sI (sI (sI xb 6 x0) 7 x1) 8 x2) 9 x3) 8), .int (gI (sI (sI (sI (sI xb 6 x0) 7 x1) 8 x2) 9 x3) 9), .ref (q 11), .long (gL (sI (sI (sI (sI xb 6 x0) 7 x1) 8 x2) 9 x3) 0), .ref (q 12), .ref (q 13), .ref (q 14), .int (gI (sI (sI (sI (sI xb 6 x0) 7 x1) 8 x2) 9 x3) 10)].set 18 (.int xn))) = WM q cy (sI (sI (sI (sI xb 6 x0) 7 x1) 8 xn) 9 x3) ++ rest := fun _ _ _ _ _ _ => rfl
          have hP : va_P D vwCl (WM q cy (sI (sI (sI (sI u 6 0) 7 (((a1 - 85) / 441) + 1)) 8 (((a1 - 85) - (a1 - 85) / 441 * 441) / 21)) 9 (-1)) ++ rest) H := k_wP (hQ u 0 (((a1 - 85) / 441) + 1) ((a1 - 1) - (a1 - 1) / 21 * 21) (-1) (((a1 - 85) - (a1 - 85) / 441 * 441) / 21)) hP
          have hD : va_D A (WM q cy (sI (sI (sI (sI u 6 0) 7 (((a1 - 85) / 441) + 1)) 8 (((a1 - 85) - (a1 - 85) / 441 * 441) / 21)) 9 (-1)) ++ rest) := k_wD (hQ u 0 (((a1 - 85) / 441) + 1) ((a1 - 1) - (a1 - 1) / 21 * 21) (-1) (((a1 - 85) - (a1 - 85) / 441 * 441) / 21)) hD
          clear hQ
          refine lv_aload_n hx hb dX6_opens_132 rfl (lv_at hl 1 rfl) ?_
          refine lv_iload_n hx hb dX6_opens_133 rfl (lv_at hl 2 rfl) ?_
          refine lv_bipush (v := 85) hx hb dX6_opens_134 (by decide) ?_
          refine lv_isub hx hb dX6_opens_136 ?_
          refine lv_bipush (v := 21) hx hb dX6_opens_137 (by decide) ?_
          refine lv_irem hx hb dX6_opens_139 (by decide) ?_
          refine va_put (ci := 6) (v := .int ((a1 - 85) - (a1 - 85) / 21 * 21)) (ty := .int) (C := RX6) (T := TX6) (N := 26) hx hb hts inlX6 tyX6 tyX6_ok nmX6 hown hE.1 hP hD hS 0 rfl rfl 19 (by decide) (hts _ wB561) (fun _ h9 => h9) rfl (by decide +kernel) rfl rfl (Nat.le_of_ble_eq_true rfl) dX6_opens_140 (fun H locs hP hD hS => ?_)
          have hQ : ∀ (xb : KS) (x0 : Int32) (x1 : Int32) (x2 : Int32) (x3 : Int32) (xn : Int32), (WM q cy (sI (sI (sI (sI xb 6 x0) 7 x1) 8 x2) 9 x3) ++ rest).set 0 (q 0, .inr (6, [.ref (q 1), .ref (q 2), .ref (q 3), .ref (q 4), .int (gI (sI (sI (sI (sI xb 6 x0) 7 x1) 8 x2) 9 x3) 0), .ref (q 5), .ref (q 6), .int (gI (sI (sI (sI (sI xb 6 x0) 7 x1) 8 x2) 9 x3) 1), .int (gI (sI (sI (sI (sI xb 6 x0) 7 x1) 8 x2) 9 x3) 2), .int (gI (sI (sI (sI (sI xb 6 x0) 7 x1) 8 x2) 9 x3) 3), .int (gI (sI (sI (sI (sI xb 6 x0) 7 x1) 8 x2) 9 x3) 4), .ref (q 7), .ref (q 8), .ref (q 9), .int (gI (sI (sI (sI (sI xb 6 x0) 7 x1) 8 x2) 9 x3) 5), .ref (q 10), .int (gI (sI (sI (sI (sI xb 6 x0) 7 x1) 8 x2) 9 x3) 6), .int (gI (sI (sI (sI (sI xb 6 x0) 7 x1) 8 x2) 9 x3) 7), .int (gI (sI (sI (sI (sI xb 6 x0) 7 x1) 8 x2) 9 x3) 8), .int (gI (sI (sI (sI (sI xb 6 x0) 7 x1) 8 x2) 9 x3) 9), .ref (q 11), .long (gL (sI (sI (sI (sI xb 6 x0) 7 x1) 8 x2) 9 x3) 0), .ref (q 12), .ref (q 13), .ref (q 14), .int (gI (sI (sI (sI (sI xb 6 x0) 7 x1) 8 x2) 9 x3) 10)].set 19 (.int xn))) = WM q cy (sI (sI (sI (sI xb 6 x0) 7 x1) 8 x2) 9 xn) ++ rest := fun _ _ _ _ _ _ => rfl
          have hP : va_P D vwCl (WM q cy (sI (sI (sI (sI u 6 0) 7 (((a1 - 85) / 441) + 1)) 8 (((a1 - 85) - (a1 - 85) / 441 * 441) / 21)) 9 ((a1 - 85) - (a1 - 85) / 21 * 21)) ++ rest) H := k_wP (hQ u 0 (((a1 - 85) / 441) + 1) (((a1 - 85) - (a1 - 85) / 441 * 441) / 21) (-1) ((a1 - 85) - (a1 - 85) / 21 * 21)) hP
          have hD : va_D A (WM q cy (sI (sI (sI (sI u 6 0) 7 (((a1 - 85) / 441) + 1)) 8 (((a1 - 85) - (a1 - 85) / 441 * 441) / 21)) 9 ((a1 - 85) - (a1 - 85) / 21 * 21)) ++ rest) := k_wD (hQ u 0 (((a1 - 85) / 441) + 1) (((a1 - 85) - (a1 - 85) / 441 * 441) / 21) (-1) ((a1 - 85) - (a1 - 85) / 21 * 21)) hD
          clear hQ
          obtain rfl := o_ret hf
          exact k_vret hx hb hr hP hD hS (Nat.zero_le _) (Nat.zero_le _) hlocks dX6_opens_143
