def LMA (R : RR) : Prop := LM_type R ∧ LM_clear R ∧ LM_faulty R ∧ LM_minutes R ∧ LM_put R ∧ LM_prior R ∧ LM_fault R ∧ LM_warm R ∧ LM_gives R ∧ LM_smoke R ∧ LM_goes R ∧ LM_look R ∧ LM_forget R ∧ LM_odds R ∧ LM_two R ∧ LM_likeliest R ∧ LM_guess R ∧ LM_next R ∧ LM_leaks R ∧ LM_hidden R ∧ LM_gone R ∧ LM_harvest R ∧ LM_drive R ∧ LM_part R ∧ LM_takes R ∧ LM_sign R ∧ LM_limb R ∧ LM_status R ∧ LM_count R ∧ LM_digest R ∧ LM_imageb R ∧ LM_image0 R ∧ LM_image1 R ∧ LM_fromb R ∧ LM_fromn0 R ∧ LM_fromn1 R ∧ LM_froms0 R ∧ LM_froms1 R
def l_n {α : Type} : Option α → Nat
  | none => 0
  | some _ => 1
theorem l_nle {α : Type} (o : Option α) : l_n o ≤ 1 := by
  cases o with
  | none => exact Nat.zero_le _
  | some _ => exact Nat.le_refl _
section LOOP
variable {p : Program} {l : Launch} {e : Env} {s : State} {m : MethodId} {below : List Frame} {meth : Method} {c : Code} {b L i : Nat} {xs : Nat → Int32} {D : va_G} {cy : Nat → ClassId} {sa : Nat → Nat} {q q2 : Nat → Nat} {u v : KS} {i0 i1 : Option ((Nat → Nat) × KS)} {H : Heap} {ls : Array Slot} {cells slots : Nat} {Z : State → Prop} {R : RR}
theorem l_inc (hx : p.tables.exec = Jvm.exec) (hb : c.code = code) (hl : lv_has ls 4 [(0, .ref b), (1, .ref (q 0)), (2, .ref (q2 0)), (3, .int (nI i))]) (K : ∀ ls : Array Slot, lv_has ls 4 [(0, .ref b), (1, .ref (q 0)), (2, .ref (q2 0)), (3, .int (nI (i + 5)))] → W p l e room_1 s m #[Value.ref b] below meth c H [] cells slots Z (F0 m 18 ls [])) : W p l e room_1 s m #[Value.ref b] below meth c H [] cells slots Z (F0 m 1123 ls []) := by
  refine lv_iinc (v := (nI i + 5)) (lv' := [(3, .int (nI i + 5)), (0, .ref b), (1, .ref (q 0)), (2, .ref (q2 0))]) hx hb dL_law_1123 hl (k := 3) rfl (by rfl) (by decide) rfl (fun ls hl => ?_)
  refine lv_goto (tgt := 18) hx hb dL_law_1126 (by decide) ?_
  refine K ls ?_
  have h := lv_sub hl [1, 2, 3, 0] rfl
  rw [← nI_add]
  exact h
set_option maxHeartbeats 2000000 in
theorem l_loop (hx : p.tables.exec = Jvm.exec) (hb : c.code = code) (hml : c.maxLocals = 4) (hown : s.vm.findClass RL = some m.cls) (hts : ∀ w ∈ wsL_law, w.before #[Value.ref b] s = true) (hX : va_X b L xs s s.heap) (hbl : b < s.heap.size) (hE : kE D cy sa (l_A s) s s.heap) (hL : L ≤ 2560) (hr : meth.sig.returnType = ret) (hlocks : meth.locks = false) (hM : LMA R) {C0 S0 : Nat} (hC : C0 + 14 ≤ 600000) (hSl : S0 + 388 ≤ 7302250) : ∀ (n i : Nat) (u v : KS) (i0 i1 : Option ((Nat → Nat) × KS)) (H : Heap) (ls : Array Slot), L < i + n → i ≤ L → R u (i0.map Prod.snd) (i1.map Prod.snd) v → IM u i0 i1 → va_P D vwCl (LWd q q2 cy u v i0 i1) H → va_D (l_A s) (LWd q q2 cy u v i0 i1) → va_S (l_A s) s.heap H [] → lv_has ls 4 [(0, .ref b), (1, .ref (q 0)), (2, .ref (q2 0)), (3, .int (nI i))] → W p l e room_1 s m #[Value.ref b] below meth c H [] (C0 + 7 * (l_n i0 + l_n i1)) (S0 + 194 * (l_n i0 + l_n i1)) (lw_Z below #[Value.ref b] s) (F0 m 18 ls []) := by
  obtain ⟨htype, hclear, hfaulty, hminutes, hput, hprior, hfault, hwarm, hgives, hsmoke, hgoes, hlook, hforget, hodds, htwo, hlikeliest, hguess, hnext, hleaks, hhidden, hgone, hharvest, hdrive, hpart, htakes, hsign, hlimb, hstatus, hcount, hdigest, himageb, himage0, himage1, hfromb, hfromn0, hfromn1, hfroms0, hfroms1⟩ := hM
  intro n
  induction n with
  | zero => intro i u v i0 i1 H ls h1 h2; exact absurd h1 (by omega)
  | succ n ih =>
    intro i u v i0 i1 H ls hn hiL hR hI hP hD hS hl
    have hbA : ¬ l_A s b := Nat.not_le.mpr hbl
    have n0 := l_nle i0
    have n1 := l_nle i1
    have hcs : (C0 + 7 * (l_n i0 + l_n i1)) ≤ room_1.cells := by show _ ≤ 600000; omega
    have hss : (S0 + 194 * (l_n i0 + l_n i1)) ≤ room_1.slots := by show _ ≤ 7302250; omega
    refine lv_iload_n hx hb dL_law_18 rfl (lv_at hl 3 rfl) ?_
    refine lv_aload_n hx hb dL_law_19 rfl (lv_at hl 0 rfl) ?_
    refine va_slen hx hb hX hbl hbA hS dL_law_20 ?_
    refine lv_iconst (v := 5) hx hb dL_law_21 (by decide) ?_
    refine lv_isub hx hb dL_law_22 ?_
    refine lv_icmp_gt (tgt := 1129) hx hb dL_law_23 (by decide) (fun c23 => ?_) (fun c23 => ?_)
    · refine lv_iconst (v := 1) hx hb dL_law_1129 (by decide) ?_
      refine W.widen (k := 600000) (n := 7302250) hcs hss ?_
      exact lw_ret hx hb hr hlocks dL_law_1130
    have hi : i + 5 ≤ L := by
      have e1 : (Int32.ofNat L).toInt = (L : Int) := nI_toInt (by omega)
      have e2 : (nI i).toInt = (i : Int) := nI_toInt (by omega)
      have e3 : (5 : Int32).toInt = 5 := rfl
      first
        | (rw [z_lt, z_sub, e1, e2, e3] at c23; omega)
        | (rw [z_gt, z_sub, e1, e2, e3] at c23; omega)
    have go : ∀ (u1 v1 : KS) (H : Heap), R u1 (i0.map Prod.snd) (i1.map Prod.snd) v1 → gO u1 = gO u → va_P D vwCl (LWd q q2 cy u1 v1 i0 i1) H → va_D (l_A s) (LWd q q2 cy u1 v1 i0 i1) → va_S (l_A s) s.heap H [] → W p l e room_1 s m #[Value.ref b] below meth c H [] (C0 + 7 * (l_n i0 + l_n i1)) (S0 + 194 * (l_n i0 + l_n i1)) (lw_Z below #[Value.ref b] s) (F0 m 1123 ls []) :=
      fun u1 v1 H hR hO hP hD hS => l_inc hx hb hl (fun ls hl => ih (i + 5) u1 v1 i0 i1 H ls (by omega) hi hR ⟨by rw [hO]; exact hI.1, by rw [hO]; exact hI.2⟩ hP hD hS hl)
    refine lv_aload_n hx hb dL_law_26 rfl (lv_at hl 0 rfl) ?_
    refine lv_iload_n hx hb dL_law_27 rfl (lv_at hl 3 rfl) ?_
    refine va_sld hx hb hX hbl hbA hS (l_in0 hi hL) dL_law_28 ?_
    refine lv_bipush (v := 31) hx hb dL_law_29 (by decide) ?_
    refine lv_iand hx hb dL_law_31 ?_
    generalize (xs (nI i).toNatClampNeg &&& 31) = x
    by_cases c0 : x = 0
    · refine lv_tableIn (tgt := 176) hx hb dL_law_32 (by rw [c0]; decide) (by rw [c0]; decide) (off := 144) (by rw [c0]; decide) (by decide) ?_
      exact lc_type hx hb hml hown hts hX hbl hE hi hL hcs hss htype hR hP hD hS hl go
    by_cases c1 : x = 1
    · refine lv_tableIn (tgt := 239) hx hb dL_law_32 (by rw [c1]; decide) (by rw [c1]; decide) (off := 207) (by rw [c1]; decide) (by decide) ?_
      exact lc_clear hx hb hml hown hts hX hbl hE hi hL hcs hss hclear hR hP hD hS hl go
    by_cases c2 : x = 2
    · refine lv_tableIn (tgt := 252) hx hb dL_law_32 (by rw [c2]; decide) (by rw [c2]; decide) (off := 220) (by rw [c2]; decide) (by decide) ?_
      exact lc_faulty hx hb hml hown hts hX hbl hE hi hL hcs hss hfaulty hR hP hD hS hl go
    by_cases c3 : x = 3
    · refine lv_tableIn (tgt := 265) hx hb dL_law_32 (by rw [c3]; decide) (by rw [c3]; decide) (off := 233) (by rw [c3]; decide) (by decide) ?_
      exact lc_minutes hx hb hml hown hts hX hbl hE hi hL hcs hss hminutes hR hP hD hS hl go
    by_cases c4 : x = 4
    · refine lv_tableIn (tgt := 278) hx hb dL_law_32 (by rw [c4]; decide) (by rw [c4]; decide) (off := 246) (by rw [c4]; decide) (by decide) ?_
      exact lc_put hx hb hml hown hts hX hbl hE hi hL hcs hss hput hR hP hD hS hl go
    by_cases c5 : x = 5
    · refine lv_tableIn (tgt := 311) hx hb dL_law_32 (by rw [c5]; decide) (by rw [c5]; decide) (off := 279) (by rw [c5]; decide) (by decide) ?_
      exact lc_prior hx hb hml hown hts hX hbl hE hi hL hcs hss hprior hR hP hD hS hl go
    by_cases c6 : x = 6
    · refine lv_tableIn (tgt := 344) hx hb dL_law_32 (by rw [c6]; decide) (by rw [c6]; decide) (off := 312) (by rw [c6]; decide) (by decide) ?_
      exact lc_fault hx hb hml hown hts hX hbl hE hi hL hcs hss hfault hR hP hD hS hl go
    by_cases c7 : x = 7
    · refine lv_tableIn (tgt := 387) hx hb dL_law_32 (by rw [c7]; decide) (by rw [c7]; decide) (off := 355) (by rw [c7]; decide) (by decide) ?_
      exact lc_warm hx hb hml hown hts hX hbl hE hi hL hcs hss hwarm hR hP hD hS hl go
    by_cases c8 : x = 8
    · refine lv_tableIn (tgt := 410) hx hb dL_law_32 (by rw [c8]; decide) (by rw [c8]; decide) (off := 378) (by rw [c8]; decide) (by decide) ?_
      exact lc_gives hx hb hml hown hts hX hbl hE hi hL hcs hss hgives hR hP hD hS hl go
    by_cases c9 : x = 9
    · refine lv_tableIn (tgt := 463) hx hb dL_law_32 (by rw [c9]; decide) (by rw [c9]; decide) (off := 431) (by rw [c9]; decide) (by decide) ?_
      exact lc_smoke hx hb hml hown hts hX hbl hE hi hL hcs hss hsmoke hR hP hD hS hl go
    by_cases c10 : x = 10
    · refine lv_tableIn (tgt := 506) hx hb dL_law_32 (by rw [c10]; decide) (by rw [c10]; decide) (off := 474) (by rw [c10]; decide) (by decide) ?_
      exact lc_goes hx hb hml hown hts hX hbl hE hi hL hcs hss hgoes hR hP hD hS hl go
    by_cases c11 : x = 11
    · refine lv_tableIn (tgt := 529) hx hb dL_law_32 (by rw [c11]; decide) (by rw [c11]; decide) (off := 497) (by rw [c11]; decide) (by decide) ?_
      exact lc_look hx hb hml hown hts hX hbl hE hi hL hcs hss hlook hR hP hD hS hl go
    by_cases c12 : x = 12
    · refine lv_tableIn (tgt := 582) hx hb dL_law_32 (by rw [c12]; decide) (by rw [c12]; decide) (off := 550) (by rw [c12]; decide) (by decide) ?_
      exact lc_forget hx hb hml hown hts hX hbl hE hi hL hcs hss hforget hR hP hD hS hl go
    by_cases c13 : x = 13
    · refine lv_tableIn (tgt := 595) hx hb dL_law_32 (by rw [c13]; decide) (by rw [c13]; decide) (off := 563) (by rw [c13]; decide) (by decide) ?_
      exact lc_odds hx hb hml hown hts hX hbl hE hi hL hcs hss hodds hR hP hD hS hl go
    by_cases c14 : x = 14
    · refine lv_tableIn (tgt := 628) hx hb dL_law_32 (by rw [c14]; decide) (by rw [c14]; decide) (off := 596) (by rw [c14]; decide) (by decide) ?_
      exact lc_two hx hb hml hown hts hX hbl hE hi hL hcs hss htwo hR hP hD hS hl go
    by_cases c15 : x = 15
    · refine lv_tableIn (tgt := 641) hx hb dL_law_32 (by rw [c15]; decide) (by rw [c15]; decide) (off := 609) (by rw [c15]; decide) (by decide) ?_
      exact lc_likeliest hx hb hml hown hts hX hbl hE hi hL hcs hss hlikeliest hR hP hD hS hl go
    by_cases c16 : x = 16
    · refine lv_tableIn (tgt := 654) hx hb dL_law_32 (by rw [c16]; decide) (by rw [c16]; decide) (off := 622) (by rw [c16]; decide) (by decide) ?_
      exact lc_guess hx hb hml hown hts hX hbl hE hi hL hcs hss hguess hR hP hD hS hl go
    by_cases c17 : x = 17
    · refine lv_tableIn (tgt := 687) hx hb dL_law_32 (by rw [c17]; decide) (by rw [c17]; decide) (off := 655) (by rw [c17]; decide) (by decide) ?_
      exact lc_next hx hb hml hown hts hX hbl hE hi hL hcs hss hnext hR hP hD hS hl go
    by_cases c18 : x = 18
    · refine lv_tableIn (tgt := 710) hx hb dL_law_32 (by rw [c18]; decide) (by rw [c18]; decide) (off := 678) (by rw [c18]; decide) (by decide) ?_
      exact lc_leaks hx hb hml hown hts hX hbl hE hi hL hcs hss hleaks hR hP hD hS hl go
    by_cases c19 : x = 19
    · refine lv_tableIn (tgt := 733) hx hb dL_law_32 (by rw [c19]; decide) (by rw [c19]; decide) (off := 701) (by rw [c19]; decide) (by decide) ?_
      exact lc_hidden hx hb hml hown hts hX hbl hE hi hL hcs hss hhidden hR hP hD hS hl go
    by_cases c20 : x = 20
    · refine lv_tableIn (tgt := 746) hx hb dL_law_32 (by rw [c20]; decide) (by rw [c20]; decide) (off := 714) (by rw [c20]; decide) (by decide) ?_
      exact lc_gone hx hb hml hown hts hX hbl hE hi hL hcs hss hgone hR hP hD hS hl go
    by_cases c21 : x = 21
    · refine lv_tableIn (tgt := 789) hx hb dL_law_32 (by rw [c21]; decide) (by rw [c21]; decide) (off := 757) (by rw [c21]; decide) (by decide) ?_
      exact lc_harvest hx hb hml hown hts hX hbl hE hi hL hcs hss hharvest hR hP hD hS hl go
    by_cases c22 : x = 22
    · refine lv_tableIn (tgt := 842) hx hb dL_law_32 (by rw [c22]; decide) (by rw [c22]; decide) (off := 810) (by rw [c22]; decide) (by decide) ?_
      exact lc_drive hx hb hml hown hts hX hbl hE hi hL hcs hss hdrive hR hP hD hS hl go
    by_cases c23 : x = 23
    · refine lv_tableIn (tgt := 895) hx hb dL_law_32 (by rw [c23]; decide) (by rw [c23]; decide) (off := 863) (by rw [c23]; decide) (by decide) ?_
      exact lc_part hx hb hml hown hts hX hbl hE hi hL hcs hss hpart hR hP hD hS hl go
    by_cases c24 : x = 24
    · refine lv_tableIn (tgt := 938) hx hb dL_law_32 (by rw [c24]; decide) (by rw [c24]; decide) (off := 906) (by rw [c24]; decide) (by decide) ?_
      exact lc_takes hx hb hml hown hts hX hbl hE hi hL hcs hss htakes hR hP hD hS hl go
    by_cases c25 : x = 25
    · refine lv_tableIn (tgt := 961) hx hb dL_law_32 (by rw [c25]; decide) (by rw [c25]; decide) (off := 929) (by rw [c25]; decide) (by decide) ?_
      exact lc_sign hx hb hml hown hts hX hbl hE hi hL hcs hss hsign hR hP hD hS hl go
    by_cases c26 : x = 26
    · refine lv_tableIn (tgt := 984) hx hb dL_law_32 (by rw [c26]; decide) (by rw [c26]; decide) (off := 952) (by rw [c26]; decide) (by decide) ?_
      exact lc_limb hx hb hml hown hts hX hbl hE hi hL hcs hss hlimb hR hP hD hS hl go
    by_cases c27 : x = 27
    · refine lv_tableIn (tgt := 1017) hx hb dL_law_32 (by rw [c27]; decide) (by rw [c27]; decide) (off := 985) (by rw [c27]; decide) (by decide) ?_
      by_cases ha : (xs ((nI i) + 1).toNatClampNeg) < 0 ∨ ¬ (xs ((nI i) + 1).toNatClampNeg) < 2
      · exact lc_imageb hx hb hml hown hts hX hbl hE hi hL hcs hss himageb ha hR hP hD hS hl go
      have h01 := l_01 (fun h => ha (Or.inl h)) (Classical.byContradiction fun h => ha (Or.inr h))
      rcases h01 with h01 | h01
      · cases i0 with
        | none => exact lc_imagen0 hx hb hml hown hts hX hbl hE hi hL (by show _ ≤ 600000; simp only [l_n] at *; omega) (by show _ ≤ 7302250; simp only [l_n] at *; omega) himage0 h01 hI hR hP hD hS hl (fun u1 t k2 v1 H hR hI hP hD hS => l_inc hx hb hl (fun ls hl => W.widen (k := C0 + 7 * (l_n (some (t, k2)) + l_n i1)) (n := S0 + 194 * (l_n (some (t, k2)) + l_n i1)) (by simp only [l_n]; omega) (by simp only [l_n]; omega) (ih (i + 5) u1 v1 (some (t, k2)) i1 H ls (by omega) hi hR hI hP hD hS hl)))
        | some tk => obtain ⟨t, k⟩ := tk; exact lc_images0 hx hb hml hown hts hX hbl hE hi hL hcs hss himage0 h01 hI hR hP hD hS hl (fun k2 v1 H hR hP hD hS => l_inc hx hb hl (fun ls hl => ih (i + 5) u v1 (some (t, k2)) i1 H ls (by omega) hi hR hI hP hD hS hl))
      · cases i1 with
        | none => exact lc_imagen1 hx hb hml hown hts hX hbl hE hi hL (by show _ ≤ 600000; simp only [l_n] at *; omega) (by show _ ≤ 7302250; simp only [l_n] at *; omega) himage1 h01 hI hR hP hD hS hl (fun u1 t k2 v1 H hR hI hP hD hS => l_inc hx hb hl (fun ls hl => W.widen (k := C0 + 7 * (l_n i0 + l_n (some (t, k2)))) (n := S0 + 194 * (l_n i0 + l_n (some (t, k2)))) (by simp only [l_n]; omega) (by simp only [l_n]; omega) (ih (i + 5) u1 v1 i0 (some (t, k2)) H ls (by omega) hi hR hI hP hD hS hl)))
        | some tk => obtain ⟨t, k⟩ := tk; exact lc_images1 hx hb hml hown hts hX hbl hE hi hL hcs hss himage1 h01 hI hR hP hD hS hl (fun k2 v1 H hR hP hD hS => l_inc hx hb hl (fun ls hl => ih (i + 5) u v1 i0 (some (t, k2)) H ls (by omega) hi hR hI hP hD hS hl))
    by_cases c28 : x = 28
    · refine lv_tableIn (tgt := 1040) hx hb dL_law_32 (by rw [c28]; decide) (by rw [c28]; decide) (off := 1008) (by rw [c28]; decide) (by decide) ?_
      by_cases ha : (xs ((nI i) + 1).toNatClampNeg) < 0 ∨ ¬ (xs ((nI i) + 1).toNatClampNeg) < 2
      · exact lc_fromb hx hb hml hown hts hX hbl hE hi hL hcs hss hfromb ha hR hP hD hS hl go
      have h01 := l_01 (fun h => ha (Or.inl h)) (Classical.byContradiction fun h => ha (Or.inr h))
      rcases h01 with h01 | h01
      · cases i0 with
        | none => exact lc_fromn0 hx hb hml hown hts hX hbl hE hi hL hcs hss hfromn0 h01 hI hR hP hD hS hl go
        | some tk => obtain ⟨t, k⟩ := tk; exact lc_froms0 hx hb hml hown hts hX hbl hE hi hL hcs hss hfroms0 h01 hI hR hP hD hS hl go
      · cases i1 with
        | none => exact lc_fromn1 hx hb hml hown hts hX hbl hE hi hL hcs hss hfromn1 h01 hI hR hP hD hS hl go
        | some tk => obtain ⟨t, k⟩ := tk; exact lc_froms1 hx hb hml hown hts hX hbl hE hi hL hcs hss hfroms1 h01 hI hR hP hD hS hl go
    by_cases c29 : x = 29
    · refine lv_tableIn (tgt := 1063) hx hb dL_law_32 (by rw [c29]; decide) (by rw [c29]; decide) (off := 1031) (by rw [c29]; decide) (by decide) ?_
      exact lc_status hx hb hml hown hts hX hbl hE hi hL hcs hss hstatus hR hP hD hS hl go
    by_cases c30 : x = 30
    · refine lv_tableIn (tgt := 1086) hx hb dL_law_32 (by rw [c30]; decide) (by rw [c30]; decide) (off := 1054) (by rw [c30]; decide) (by decide) ?_
      exact lc_count hx hb hml hown hts hX hbl hE hi hL hcs hss hcount hR hP hD hS hl go
    by_cases c31 : x = 31
    · refine lv_tableIn (tgt := 1109) hx hb dL_law_32 (by rw [c31]; decide) (by rw [c31]; decide) (off := 1077) (by rw [c31]; decide) (by decide) ?_
      exact lc_digest hx hb hml hown hts hX hbl hE hi hL hcs hss hdigest hR hP hD hS hl go
    refine lv_tableOut (tgt := 1123) hx hb dL_law_32 (by have t0 := lv_neT (a := 0) c0 rfl; have t1 := lv_neT (a := 1) c1 rfl; have t2 := lv_neT (a := 2) c2 rfl; have t3 := lv_neT (a := 3) c3 rfl; have t4 := lv_neT (a := 4) c4 rfl; have t5 := lv_neT (a := 5) c5 rfl; have t6 := lv_neT (a := 6) c6 rfl; have t7 := lv_neT (a := 7) c7 rfl; have t8 := lv_neT (a := 8) c8 rfl; have t9 := lv_neT (a := 9) c9 rfl; have t10 := lv_neT (a := 10) c10 rfl; have t11 := lv_neT (a := 11) c11 rfl; have t12 := lv_neT (a := 12) c12 rfl; have t13 := lv_neT (a := 13) c13 rfl; have t14 := lv_neT (a := 14) c14 rfl; have t15 := lv_neT (a := 15) c15 rfl; have t16 := lv_neT (a := 16) c16 rfl; have t17 := lv_neT (a := 17) c17 rfl; have t18 := lv_neT (a := 18) c18 rfl; have t19 := lv_neT (a := 19) c19 rfl; have t20 := lv_neT (a := 20) c20 rfl; have t21 := lv_neT (a := 21) c21 rfl; have t22 := lv_neT (a := 22) c22 rfl; have t23 := lv_neT (a := 23) c23 rfl; have t24 := lv_neT (a := 24) c24 rfl; have t25 := lv_neT (a := 25) c25 rfl; have t26 := lv_neT (a := 26) c26 rfl; have t27 := lv_neT (a := 27) c27 rfl; have t28 := lv_neT (a := 28) c28 rfl; have t29 := lv_neT (a := 29) c29 rfl; have t30 := lv_neT (a := 30) c30 rfl; have t31 := lv_neT (a := 31) c31 rfl; omega) (by decide) ?_
    exact go u v H hR rfl hP hD hS
end LOOP
set_option maxHeartbeats 2000000 in
theorem l_start {R : RR} (hM : LMA R) {v0 : KS} (hi6 : mX6_init kM0 = some v0) (hR0 : R kX0 none none v0) {p : Program} {e : Env} {s : State} {m : MethodId} {below : List Frame} {meth : Method} {c : Code} (l : Launch) {b L : Nat} {xs : Nat → Int32} (hL : L ≤ 2560) (C0 : lw_At p s m meth c b L xs) : W p l e room_1 s m #[Value.ref b] below meth c s.heap [] 0 0 (lw_Z below #[Value.ref b] s) (entryFrame m ([Value.ref b] : List Value).toArray 4) := by
  obtain ⟨D, cy, sa, hE⟩ := l_env C0
  obtain ⟨hx, hb, hr, hml, hown, hts0, hX, hbl, hlocks, hgv⟩ := id C0
  have hts : ∀ w ∈ wsL_law, w.before #[Value.ref b] s = true := fun w h => hts0 w (wsL_law_in w h)
  have hown : s.vm.findClass RL = some m.cls := hown
  have hA : ∀ x : Nat, s.heap.size ≤ x → l_A s x := fun _ h => h
  have hS : va_S (l_A s) s.heap s.heap [] := va_S.rf
  have hP : va_P D vwCl [] s.heap := fun k q h => by simp at h
  have hD : va_D (l_A s) [] := ⟨fun i j p q h => by simp at h, fun k q h => by simp at h⟩
  have hl := lv_entry ([.ref b]) (n := 4) (Nat.le_of_ble_eq_true rfl)
  rw [lg_entry_eq]
  generalize (lg_sl ([.ref b]) ++ List.replicate (4 - (lg_sl ([.ref b])).length) Slot.unset).toArray = ls at hl ⊢
  have hl : lv_has ls 4 [(0, .ref b)] := hl
  have hE : kE D cy sa (l_A s) s s.heap := hE
  refine va_new (ci := 5) (fs := [.null, .null, .null, .null, .null, .null, .null, .int 0, .int 0]) (C := RX5) (T := TX5) (N := 9) hx hb hts inlX5 tyX5 tyX5_ok hown (hts _ wB0) (hts _ wB1) (hts _ wB2) hE.1 hP hD hS hA rfl (fun j hj => by rcases (show j = 0 ∨ j = 1 ∨ j = 2 ∨ j = 3 ∨ j = 4 ∨ j = 5 ∨ j = 6 ∨ j = 7 ∨ j = 8 by omega) with rfl | rfl | rfl | rfl | rfl | rfl | rfl | rfl | rfl <;> rfl) (Nat.le_of_ble_eq_true rfl) (Nat.le_of_ble_eq_true rfl) dL_law_0 (fun b0 H hP hD hS => ?_)
  have hPc : va_P D vwCl [(b0, .inr (5, [.null, .null, .null, .null, .null, .null, .null, .int 0, .int 0]))] H := hP
  have hDc : va_D (l_A s) [(b0, .inr (5, [.null, .null, .null, .null, .null, .null, .null, .int 0, .int 0]))] := hD
  refine lv_dup hx hb dL_law_3 rfl ?_
  refine k_gon2 (ws := []) (va_runI (As := []) (rest := [.ref b0]) ⟨hx, hb, hml, hown, hts⟩ (zX5_init l D cy sa b0 H.size) (cwI 0 hts (gB_K wB9) rfl rfl rfl (hts _ wB2) (hts _ wB7) (hts _ wB8) rfl (by decide +kernel) ⟨(Nat.le_of_ble_eq_true rfl), (Nat.le_of_ble_eq_true rfl)⟩) ⟨kP.blind, k_pre hPc hDc hS hE hA⟩ rfl rfl hl.1 rfl (lv_room (Nat.le_of_ble_eq_true rfl)) dL_law_4 ⟨(Nat.le_of_ble_eq_true rfl), (Nat.le_of_ble_eq_true rfl)⟩) hPc hDc hS hDc hA (fun t H locs hb0 hPn hDn hSn => ?_)
  clear hP hD hS hPc hDc
  subst hb0
  have hS := hSn
  have hP : va_P D vwCl (WX t cy kX0) H := hPn
  have hD : va_D (l_A s) (WX t cy kX0) := hDn
  clear hPn hDn hSn
  refine lv_astore_n (lv' := [(1, .ref (t 0)), (0, .ref b)]) hx hb dL_law_7 rfl hl (by decide) rfl (fun ls hl => ?_)
  refine va_new (ci := 6) (fs := [.null, .null, .null, .null, .int 0, .null, .null, .int 0, .int 0, .int 0, .int 0, .null, .null, .null, .int 0, .null, .int 0, .int 0, .int 0, .int 0, .null, .long 0, .null, .null, .null, .int 0]) (C := RX6) (T := TX6) (N := 26) hx hb hts inlX6 tyX6 tyX6_ok hown (hts _ wB3) (hts _ wB4) (hts _ wB5) hE.1 hP hD hS hA rfl (fun j hj => by rcases (show j = 0 ∨ j = 1 ∨ j = 2 ∨ j = 3 ∨ j = 4 ∨ j = 5 ∨ j = 6 ∨ j = 7 ∨ j = 8 ∨ j = 9 ∨ j = 10 ∨ j = 11 ∨ j = 12 ∨ j = 13 ∨ j = 14 ∨ j = 15 ∨ j = 16 ∨ j = 17 ∨ j = 18 ∨ j = 19 ∨ j = 20 ∨ j = 21 ∨ j = 22 ∨ j = 23 ∨ j = 24 ∨ j = 25 by omega) with rfl | rfl | rfl | rfl | rfl | rfl | rfl | rfl | rfl | rfl | rfl | rfl | rfl | rfl | rfl | rfl | rfl | rfl | rfl | rfl | rfl | rfl | rfl | rfl | rfl | rfl <;> rfl) (Nat.le_of_ble_eq_true rfl) (Nat.le_of_ble_eq_true rfl) dL_law_8 (fun b1 H hP hD hS => ?_)
  refine lv_dup hx hb dL_law_11 rfl ?_
  have hPc : va_P D vwCl [(b1, .inr (6, [.null, .null, .null, .null, .int 0, .null, .null, .int 0, .int 0, .int 0, .int 0, .null, .null, .null, .int 0, .null, .int 0, .int 0, .int 0, .int 0, .null, .long 0, .null, .null, .null, .int 0]))] H := hP.by (fun k => (WX t cy kX0).length + k) (fun k q hk => by rw [List.getElem?_append_right (Nat.le_add_right _ _), Nat.add_sub_cancel_left]; exact hk)
  have hDc : va_D (l_A s) [(b1, .inr (6, [.null, .null, .null, .null, .int 0, .null, .null, .int 0, .int 0, .int 0, .int 0, .null, .null, .null, .int 0, .null, .int 0, .int 0, .int 0, .int 0, .null, .long 0, .null, .null, .null, .int 0]))] := hD.by (fun k => (WX t cy kX0).length + k) (fun k q hk => by rw [List.getElem?_append_right (Nat.le_add_right _ _), Nat.add_sub_cancel_left]; exact hk) (fun i j _ _ e => Nat.add_left_cancel e)
  refine k_gon2 (ws := WX t cy kX0) (va_runI (As := []) (rest := [.ref b1]) ⟨hx, hb, hml, hown, hts⟩ (zX6_init l D cy sa b1 H.size v0 hi6) (cwI 0 hts (gB_K wB81) rfl rfl rfl (hts _ wB5) (hts _ wB79) (hts _ wB80) rfl (by decide +kernel) ⟨(Nat.le_of_ble_eq_true rfl), (Nat.le_of_ble_eq_true rfl)⟩) ⟨kP.blind, k_pre hPc hDc hS hE hA⟩ rfl rfl hl.1 rfl (lv_room (Nat.le_of_ble_eq_true rfl)) dL_law_12 ⟨(Nat.le_of_ble_eq_true rfl), (Nat.le_of_ble_eq_true rfl)⟩) hP hD hS hDc hA (fun t2 H locs hb1 hPn hDn hSn => ?_)
  clear hP hD hS hPc hDc
  subst hb1
  have hS := hSn
  have hP : va_P D vwCl (LWd t t2 cy kX0 v0 none none) H := hPn
  have hD : va_D (l_A s) (LWd t t2 cy kX0 v0 none none) := hDn
  clear hPn hDn hSn
  refine lv_astore_n (lv' := [(2, .ref (t2 0)), (1, .ref (t 0)), (0, .ref b)]) hx hb dL_law_15 rfl hl (by decide) rfl (fun ls hl => ?_)
  refine lv_iconst (v := 0) hx hb dL_law_16 (by decide) ?_
  refine lv_istore_n (lv' := [(3, .int 0), (2, .ref (t2 0)), (1, .ref (t 0)), (0, .ref b)]) hx hb dL_law_17 rfl hl (by decide) rfl (fun ls hl => ?_)
  refine va_forget hS.2.2 ?_
  have hS : va_S (l_A s) s.heap H [] := ⟨hS.1, hS.2.1, fun l h => by cases h⟩
  refine W.widen (k := 599986 + 7 * (l_n (none : Option ((Nat → Nat) × KS)) + l_n (none : Option ((Nat → Nat) × KS)))) (n := 7301862 + 194 * (l_n (none : Option ((Nat → Nat) × KS)) + l_n (none : Option ((Nat → Nat) × KS)))) (Nat.le_of_ble_eq_true rfl) (Nat.le_of_ble_eq_true rfl) ?_
  exact l_loop hx hb hml hown hts hX hbl hE hL hr hlocks hM (by decide) (by decide) (L + 1) 0 kX0 v0 none none H ls (by omega) (Nat.zero_le _) hR0 ⟨rfl, rfl⟩ hP hD hS (lv_sub hl [3, 2, 1, 0] rfl)
