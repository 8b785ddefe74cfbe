def R_law : String := "BlueSmokeLaw"
def lw_P (b : Addr) (xs : List Int32) (args : Array Value) (s : State) : Prop := args = #[.ref b] ∧ s.IntsAt b xs ∧ xs.length ≤ 260 ∧ (Jvm.Cond.and given_1 narrow_1).before args s = true
def lw_Q (_ : Array Value) (s : State) (o : Outcome) (t : State) : Prop := o = .returned (some (.int 1)) ∧ Framed s o t [] 600000 7302250
def lw_Z (below : List Frame) (a : Array Value) (s : State) : State → Prop := fun t => ∃ o, t.status = .running ∧ Ended t below o ∧ lw_Q a s o t
/-- the law's own end, with 1 on the stack, nothing written that was there before, its room as the claim has it -/
theorem lw_ret {p : Program} {l : Launch} {e : Env} {s : State} {m : MethodId} {below : List Frame} {meth : Method} {c : Code} {b : Nat} (hx : p.tables.exec = Jvm.exec) (hb : c.code = code) (hr : meth.sig.returnType = ret) (hlocks : meth.locks = false) {pc : Nat} {H : Heap} {ls : Array Slot} (hdg : decode code pc = .ok (.ireturn, 1)) : W p l e room_1 s m #[Value.ref b] below meth c H [] 600000 7302250 (lw_Z below #[Value.ref b] s) (F0 m pc ls [.int 1]) := by
  intro T hT X
  obtain ⟨fs, hret, hrun, hended, hW, hframe⟩ := X.leave (v := some (.int 1)) (hlocks := hlocks) (fun h => by rw [hr] at h; cases h)
  have hmeth' : T.vm.method? m = some meth := X.method'
  refine ⟨T.setFrames fs, ?_, .returned (some (.int 1)), hrun, hended, rfl, ⟨_, rfl⟩, hW, hframe⟩
  jvm_step X.here [X.here.top, hx, hb, hdg, hmeth', hr, ret, narrow_b1]
  (try refine ⟨rfl, ?_⟩); (try refine ⟨rfl, ?_⟩)
  first | (intro acts; rw [hret _ acts rfl rfl rfl]) | rw [hret _ _ rfl rfl rfl]
  exact Steps.refl _
/-- what holds at the law's entry: the machine, the code, the tables' words (any of lw_tbl by 'hts w (by decide +kernel)'), the script of L ints xs at the cell b, what the Statement gives of the start (any of its parts by flat_of_before) -/
def lw_At (p : Program) (s : State) (m : MethodId) (meth : Method) (c : Code) (b L : Nat) (xs : Nat → Int32) : Prop :=
  p.tables.exec = Jvm.exec ∧ c.code = code ∧ meth.sig.returnType = ret ∧ c.maxLocals = 27 ∧ s.vm.findClass R_law = some m.cls ∧ (∀ w ∈ lw_tbl, w.before #[Value.ref b] s = true) ∧ va_X b L xs s s.heap ∧ b < s.heap.size ∧ meth.locks = false ∧ (Jvm.Cond.and given_1 narrow_1).before #[Value.ref b] s = true
/-! the entry: what every contract leans on, out of the Statement's premises -/
theorem lw_q {w : Cond} {i : Nat} (h : tables_1[i]? = some w) : w ∈ lw_tbl := List.mem_append_right _ (List.mem_of_getElem? h)
theorem l_arr {args : Array Value} {s : State} {ty : FieldType} (hn : ∀ C, ty ≠ .object C) (h : (Cond.arrayClass ty).before args s = true) : ∃ cA, ArrOfT s cA ty ∧ va_RA s cA ty := by
  obtain ⟨cA, kA, comp, h1, h2, h3⟩ := Cond.arrayClass_spec h
  refine ⟨cA, fun N z => ⟨fun k h => (by cases h), kA, h2, comp, h3⟩, ?_⟩
  cases ty with
  | object C => exact absurd rfl (hn C)
  | _ => exact h1
theorem l_arO {args : Array Value} {s : State} {C : String} (h : (Cond.arrayOver (.object C)).before args s = true) : ∃ cA, ArrOfT s cA (.object C) ∧ va_RA s cA (.object C) := by
  obtain ⟨comp, cA, kA, h1, h2, h3, h4, h5⟩ := Cond.arrayOver_spec h
  exact ⟨cA, fun N z => ⟨fun k h => (by cases h), kA, h3, comp, h4⟩, kA, comp, h3, h4, h1, h5⟩
def l_tm : Nat → Term := fun i => [Term.string RX0 74, .string RX0 80, .string RX0 82, .string RX0 84].getD i (.string RX0 74)
abbrev l_fl : List Cond := flatC (Jvm.Cond.and given_1 narrow_1)
theorem l_s1 : ∀ i : Nat, i < 4 → (Cond.exactly (l_tm i) "java/lang/String") ∈ l_fl := by decide +kernel
theorem l_s2 : ∀ i : Nat, i < 4 → (Cond.eq (.field (l_tm i) "java/lang/String" "coder" "B") (.int 0)) ∈ l_fl := by decide +kernel
theorem l_s3 : ∀ i : Nat, i < 4 → (Cond.arrayOf (.field (l_tm i) "java/lang/String" "value" "[B") .byte) ∈ l_fl := by decide +kernel
theorem l_s4 : ∀ i : Nat, i < 4 → (Cond.eq (.length (.field (l_tm i) "java/lang/String" "value" "[B")) (.int (Int32.ofNat (kStrLen.getD i 0)))) ∈ l_fl := by decide +kernel
theorem l_s5 : ∀ i : Nat, i < 4 → ∀ j : Nat, j < kStrLen.getD i 0 → (Cond.eq (.elem (.field (l_tm i) "java/lang/String" "value" "[B") (.int (Int32.ofNat j))) (.int ((kStrByt.getD i []).getD j 0))) ∈ l_fl := by decide +kernel
theorem l_s6 : ∀ i : Nat, i < 4 → ∀ j : Nat, j < 4 → i ≠ j → (Cond.not (Cond.eq (l_tm i) (l_tm j))) ∈ l_fl ∨ (Cond.not (Cond.eq (l_tm j) (l_tm i))) ∈ l_fl := by decide +kernel
theorem l_s7 : ∀ i : Nat, i < 4 → kStrLen.getD i 0 < 2 ^ 31 := by decide +kernel
theorem l_a1 : ∀ j : Nat, j < 4 → (Cond.eq (.elem (.static "BlueSmoke" "SETTING_LEAST" "[I") (.int (Int32.ofNat j))) (.int ([(0 : Int32), 1, 1, 0].getD j 0))) ∈ l_fl := by decide +kernel
theorem l_a2 : ∀ j : Nat, j < 4 → (Cond.eq (.elem (.static "BlueSmoke" "SETTING_MOST" "[I") (.int (Int32.ofNat j))) (.int ([(100 : Int32), 40, 9, 99].getD j 0))) ∈ l_fl := by decide +kernel
theorem l_n0 : tables_1[23]? = kNm[0]? := by decide +kernel
theorem l_n1 : tables_1[68]? = kNm[1]? := by decide +kernel
theorem l_n2 : tables_1[105]? = kNm[2]? := by decide +kernel
theorem l_n3 : tables_1[127]? = kNm[3]? := by decide +kernel
theorem l_n4 : tables_1[227]? = kNm[4]? := by decide +kernel
theorem l_n5 : tables_1[305]? = kNm[5]? := by decide +kernel
theorem l_n6 : tables_1[543]? = kNm[6]? := by decide +kernel
theorem l_n7 : tables_1[554]? = kNm[7]? := by decide +kernel
theorem l_n8 : tables_1[432]? = kNm[8]? := by decide +kernel
theorem l_n9 : tables_1[445]? = kNm[9]? := by decide +kernel
theorem l_n10 : tables_1[491]? = kNm[10]? := by decide +kernel
theorem l_n11 : tables_1[433]? = kNm[11]? := by decide +kernel
theorem l_n12 : tables_1[604]? = kNm[12]? := by decide +kernel
theorem l_n13 : tables_1[569]? = kNm[13]? := by decide +kernel
theorem l_n14 : tables_1[578]? = kNm[14]? := by decide +kernel
theorem l_nm : ∀ w ∈ kNm, w ∈ lw_tbl := by
  intro w hw
  obtain ⟨k, hk⟩ := List.mem_iff_getElem?.mp hw
  match k, hk with
  | 0, hk => exact lw_q (l_n0.trans hk)
  | 1, hk => exact lw_q (l_n1.trans hk)
  | 2, hk => exact lw_q (l_n2.trans hk)
  | 3, hk => exact lw_q (l_n3.trans hk)
  | 4, hk => exact lw_q (l_n4.trans hk)
  | 5, hk => exact lw_q (l_n5.trans hk)
  | 6, hk => exact lw_q (l_n6.trans hk)
  | 7, hk => exact lw_q (l_n7.trans hk)
  | 8, hk => exact lw_q (l_n8.trans hk)
  | 9, hk => exact lw_q (l_n9.trans hk)
  | 10, hk => exact lw_q (l_n10.trans hk)
  | 11, hk => exact lw_q (l_n11.trans hk)
  | 12, hk => exact lw_q (l_n12.trans hk)
  | 13, hk => exact lw_q (l_n13.trans hk)
  | 14, hk => exact lw_q (l_n14.trans hk)
  | k + 15, hk => cases hk
set_option maxRecDepth 20000 in
theorem l_env {p : Program} {s : State} {m : MethodId} {meth : Method} {c : Code} {b L : Nat} {xs : Nat → Int32} (C0 : lw_At p s m meth c b L xs) : ∃ (D : va_G) (cy : Nat → ClassId) (sa : Nat → Nat), kE D cy sa (fun q : Nat => s.heap.size ≤ q) s s.heap ∧ sa 10 = b ∧ sa 11 = L := by
  obtain ⟨hx, hb, hr, hml, hown, hts, hX, hbl, hlocks, hgv⟩ := id C0
  have hs := flat_of_before _ hgv
  have hsl : ∀ w ∈ wsL_law, w.before #[Value.ref b] s = true := fun w h => hts w (wsL_law_in w h)
  have hA : ∀ a : Nat, a < s.heap.size → ¬ (fun q : Nat => s.heap.size ≤ q) a := fun a h => Nat.not_le.mpr h
  obtain ⟨c0, iS0, hKn0⟩ := u_known (C := RX0) (T := TX0) (N := 9) (n := 9) hsl inlX0 (hsl _ wB19)
  obtain ⟨c1, iS1, hKn1⟩ := u_known (C := RX1) (T := TX1) (N := 5) (n := 5) hsl inlX1 (hsl _ wB31)
  obtain ⟨c2, iS2, hKn2⟩ := u_known (C := RX2) (T := TX2) (N := 4) (n := 4) hsl inlX2 (hsl _ wB23)
  obtain ⟨c3, iS3, hKn3⟩ := u_known (C := RX3) (T := TX3) (N := 9) (n := 9) hsl inlX3 (hsl _ wB14)
  obtain ⟨c4, iS4, hKn4⟩ := u_known (C := RX4) (T := TX4) (N := 3) (n := 3) hsl inlX4 (hsl _ wB27)
  obtain ⟨c5, iS5, hKn5⟩ := u_known (C := RX5) (T := TX5) (N := 9) (n := 9) hsl inlX5 (hsl _ wB1)
  obtain ⟨D, hKc⟩ : ∃ D : va_G, ∀ (k : Nat) (q : vw_C), vwCl[k]? = some q → u_Kn s q.1 q.2.1 q.2.2 (D.1 k) (D.2 k) := by
    refine ⟨(fun k => [c0, c1, c2, c3, c4, c5].getD k 0, fun k => [iS0, iS1, iS2, iS3, iS4, iS5].getD k (fun _ => 0)), ?_⟩
    intro k q hq
    match k, hq with
    | 0, hq => cases hq; exact hKn0
    | 1, hq => cases hq; exact hKn1
    | 2, hq => cases hq; exact hKn2
    | 3, hq => cases hq; exact hKn3
    | 4, hq => cases hq; exact hKn4
    | 5, hq => cases hq; exact hKn5
    | k + 6, hq => cases hq
  obtain ⟨y0, h0a, h0b⟩ := l_arr (fun C h => by cases h) (hsl (.arrayClass .int) wB34)
  obtain ⟨y1, h1a, h1b⟩ := l_arr (fun C h => by cases h) (hsl (.arrayClass .long) wB59)
  obtain ⟨y3, h3a, h3b⟩ := l_arO (hts (.arrayOver (.object RX3)) (lw_q (i := 65) (by decide +kernel)))
  obtain ⟨cy, hcy⟩ : ∃ cy : Nat → ClassId, va_K D vwCl (kTys cy) s := by
    refine ⟨fun k => [y0, y1, y1, y3].getD k 0, hKc, ?_⟩
    intro k q hq
    match k, hq with
    | 0, hq => cases hq; exact ⟨h0a, h0b⟩
    | 1, hq => cases hq; exact ⟨h1a, h1b⟩
    | 2, hq => cases hq; exact ⟨h1a, h1b⟩
    | 3, hq => cases hq; exact ⟨h3a, h3b⟩
    | k + 4, hq => cases hq
  obtain ⟨aK, aV, hvs, hev⟩ := vk_Sof (args := #[Value.ref b]) (s := s) (N := 4) (tm := l_tm) (len := kStrLen) (byt := kStrByt) (A := fun q : Nat => s.heap.size ≤ q) l_s7 (fun i hi => hs _ (l_s1 i hi)) (fun i hi => hs _ (l_s2 i hi)) (fun i hi => hs _ (l_s3 i hi)) (fun i hi => hs _ (l_s4 i hi)) (fun i hi j hj => hs _ (l_s5 i hi j hj)) (fun i j hi hj hn => (l_s6 i hi j hj hn).imp (hs _) (hs _)) hA
  obtain ⟨t1, e1, hT1⟩ := va_Tof (args := #[Value.ref b]) (s := s) (tm := .static "BlueSmoke" "SETTING_LEAST" "[I") (ty := .int) (N := 4) (f := kLeast) (A := fun q : Nat => s.heap.size ≤ q) (by decide) (hs _ (by decide +kernel)) (va_eqt (hs _ (by decide +kernel))) (fun j hj => va_eqt (hs _ (l_a1 j hj))) hA
  obtain ⟨t2, e2, hT2⟩ := va_Tof (args := #[Value.ref b]) (s := s) (tm := .static "BlueSmoke" "SETTING_MOST" "[I") (ty := .int) (N := 4) (f := kMost) (A := fun q : Nat => s.heap.size ≤ q) (by decide) (hs _ (by decide +kernel)) (va_eqt (hs _ (by decide +kernel))) (fun j hj => va_eqt (hs _ (l_a2 j hj))) hA
  obtain ⟨sa, hsa⟩ : ∃ sa : Nat → Nat, (∀ i, i < 4 → sa i = aK i) ∧ (∀ i, i < 4 → sa (4 + i) = aV i) ∧ sa 8 = t1 ∧ sa 9 = t2 ∧ sa 10 = b ∧ sa 11 = L ∧ ∀ j, scr sa j = xs j := by
    refine ⟨fun i => if i < 4 then aK i else if i < 8 then aV (i - 4) else if i = 8 then t1 else if i = 9 then t2 else if i = 10 then b else if i = 11 then L else ((xs (i - 12)).toInt % 4294967296).toNat, ?_, ?_, ?_, ?_, ?_, ?_, fun j => ?_⟩
    · intro i hi
      show (if i < 4 then aK i else _) = _
      rw [if_pos hi]
    · intro i hi
      show (if 4 + i < 4 then aK (4 + i) else if 4 + i < 8 then aV (4 + i - 4) else _) = _
      rw [if_neg (by omega), if_pos (by omega), Nat.add_sub_cancel_left]
    · rfl
    · rfl
    · rfl
    · rfl
    · unfold scr
      dsimp only
      rw [if_neg (by omega), if_neg (by omega), if_neg (by omega), if_neg (by omega), if_neg (by omega), if_neg (by omega), Nat.add_sub_cancel_left]
      have h9 := z_rng (xs j)
      refine Int32.toInt_inj.mp ?_
      rw [z_ofNat]
      omega
  obtain ⟨hsa1, hsa2, hsa3, hsa4, hsa5, hsa6, hsa7⟩ := hsa
  have hev' : ∀ i, i < 4 → (l_tm i).eval #[Value.ref b] s none [] s = some (.ref (sa i)) := fun i hi => by rw [hsa1 i hi]; exact hev i hi
  refine ⟨D, cy, sa, ⟨hcy, ⟨fun w hw => ?_, va_AO.of (hts (.arrayOver (.object RX3)) (lw_q (i := 65) (by decide +kernel))), vk_R.of (hts (.stringRef RX0 74 "stand") (lw_q (i := 243) (by decide +kernel))) (hev' 0 (by decide)), vk_R.of (hts (.stringRef RX0 80 "idle") (lw_q (i := 295) (by decide +kernel))) (hev' 1 (by decide)), vk_R.of (hts (.stringRef RX0 82 "pull") (lw_q (i := 296) (by decide +kernel))) (hev' 2 (by decide)), vk_R.of (hts (.stringRef RX0 84 "coast") (lw_q (i := 297) (by decide +kernel))) (hev' 3 (by decide))⟩, ⟨fun i hi => ?_, fun i j hi hj e => ?_⟩, ?_, ?_, ?_, ?_, ?_, ?_, ?_⟩, hsa5, hsa6⟩
  · have h9 := hts w (l_nm w hw)
    obtain ⟨a, i, x, h, rfl⟩ := kNm_is w hw
    exact va_Nw.of rfl h9
  · rw [hsa1 i hi]
    dsimp only
    rw [hsa2 i hi]
    exact hvs.1 i hi
  · rw [hsa1 i hi, hsa1 j hj] at e
    exact hvs.2 i j hi hj e
  · exact va_Zof (hts (.laysStatic "java/lang/String" "COMPACT_STRINGS" "Z") (lw_q (i := 256) (by decide +kernel))) (hts (.initialized "java/lang/String") (lw_q (i := 7) (by decide +kernel))) (va_eqi (hs _ (by decide +kernel))) hA
  · rw [hsa3]
    exact va_Zof (hts (.laysStatic "BlueSmoke" "SETTING_LEAST" "[I") (lw_q (i := 344) (by decide +kernel))) (hsl (.initialized RX5) wB2) e1 hA
  · rw [hsa3]
    exact hT1
  · rw [hsa4]
    exact va_Zof (hts (.laysStatic "BlueSmoke" "SETTING_MOST" "[I") (lw_q (i := 346) (by decide +kernel))) (hsl (.initialized RX5) wB2) e2 hA
  · rw [hsa4]
    exact hT2
  · exact va_Zqof (hts (.laysStatic "jdk/internal/util/Preconditions" "SIOOBE_FORMATTER" "Ljava/util/function/BiFunction;") (lw_q (i := 272) (by decide +kernel))) (hts (.initialized "jdk/internal/util/Preconditions") (lw_q (i := 9) (by decide +kernel))) (hs _ (by decide +kernel)) hA
  · obtain ⟨cell, g1, g2, g3, g4, g5⟩ := hX
    rw [hsa5, hsa6]
    exact ⟨cell, g1, g2, g3, Nat.le_of_eq g4.symm, by rw [g4], fun j hj => by show _ = some (Value.int (scr sa j)); rw [hsa7]; exact g5 j hj, Nat.not_le.mpr hbl⟩
