theorem k_qxP1 {D : va_G} {q : Nat → Nat} {t : Nat} {cy : Nat → ClassId} {u : KS} {rest : va_W} {H : Heap} (h : va_P D vwCl (WX q cy u ++ ((t, .inl (cy 0, 64, .inl (gR u 20))) :: rest)) H) : va_P D vwCl (WXR (qx q t) cy u ++ rest) H := h
theorem k_qxD1 {A : Nat → Prop} {q : Nat → Nat} {t : Nat} {cy : Nat → ClassId} {u : KS} {rest : va_W} (h : va_D A (WX q cy u ++ ((t, .inl (cy 0, 64, .inl (gR u 20))) :: rest))) : va_D A (WXR (qx q t) cy u ++ rest) := h
/-- what is asked of the law's mirrors -/
def LawOk (sa : Nat → Nat) : Prop := ∃ uA rB kk, mL_lawA sa kX0 = some uA ∧ mL_lawB sa uA = some rB ∧ gO rB.2 ((1 : Int32).toNatClampNeg) = none ∧ mX3_become (kJ kkept rB.2) = some kk ∧ ∀ t0 : Nat, mL_lawC (sO rB.2 (va_up (gO rB.2) ((1 : Int32).toNatClampNeg) (some t0))) kk t0 rB.1 = some ()
set_option maxRecDepth 20000 in
set_option maxHeartbeats 4000000 in
theorem l_start (hM : ∀ sa : Nat → Nat, sa 11 ≤ 260 → LawOk sa) {p : Program} {e : Env} {s : State} {m : MethodId} {below : List Frame} {meth : Method} {c : Code} (l : Launch) {b L : Nat} {xs : Nat → Int32} (hL : L ≤ 260) (C0 : lw_At p s m meth c b L xs) : W p l e room_1 s m #[Value.ref b] below meth c s.heap [] 0 0 (lw_Z below #[Value.ref b] s) (entryFrame m ([Value.ref b] : List Value).toArray 27) := by
  obtain ⟨D, cy, sa, hE, hsb, hsL⟩ := l_env C0
  obtain ⟨uA, rB, kk, hfA, hfB, hn, hbec, hfC⟩ := hM sa (by rw [hsL]; exact hL)
  obtain ⟨hx, hb, hr, hml, hown, hts0, hX, hbl, hlocks, hgv⟩ := id C0
  clear hX hbl hgv C0
  subst hsb
  have hts : ∀ w ∈ wsL_law, w.before #[Value.ref (sa 10)] s = true := fun w h => hts0 w (wsL_law_in w h)
  have hown : s.vm.findClass RL = some m.cls := hown
  have hA : ∀ x : Nat, s.heap.size ≤ x → l_A s x := fun _ h => h
  have hS : va_S (l_A s) s.heap s.heap [] := va_S.rf
  have hP : va_P D vwCl [] s.heap := fun k q h => by simp at h
  have hD : va_D (l_A s) [] := ⟨fun i j p q h => by simp at h, fun k q h => by simp at h⟩
  have hl := lv_entry ([.ref (sa 10)]) (n := 27) (Nat.le_of_ble_eq_true rfl)
  rw [lg_entry_eq]
  generalize (lg_sl ([.ref (sa 10)]) ++ List.replicate (27 - (lg_sl ([.ref (sa 10)])).length) Slot.unset).toArray = ls at hl ⊢
  have hl : lv_has ls 27 [(0, .ref (sa 10))] := hl
  have hE : kE D cy sa (l_A s) s s.heap := hE
  refine va_new (ci := 5) (fs := [.null, .null, .null, .null, .null, .null, .null, .int 0, .int 0]) (C := RX5) (T := TX5) (N := 9) hx hb hts inlX5 tyX5 tyX5_ok hown (hts _ wB0) (hts _ wB1) (hts _ wB2) hE.1 hP hD hS hA rfl (fun j hj => by rcases (show j = 0 ∨ j = 1 ∨ j = 2 ∨ j = 3 ∨ j = 4 ∨ j = 5 ∨ j = 6 ∨ j = 7 ∨ j = 8 by omega) with rfl | rfl | rfl | rfl | rfl | rfl | rfl | rfl | rfl <;> rfl) (Nat.le_of_ble_eq_true rfl) (Nat.le_of_ble_eq_true rfl) dL_law_0 (fun b0 H hP hD hS => ?_)
  have hPc : va_P D vwCl [(b0, .inr (5, [.null, .null, .null, .null, .null, .null, .null, .int 0, .int 0]))] H := hP
  have hDc : va_D (l_A s) [(b0, .inr (5, [.null, .null, .null, .null, .null, .null, .null, .int 0, .int 0]))] := hD
  refine lv_dup hx hb dL_law_3 rfl ?_
  refine k_gon2 (ws := []) (va_runI (As := []) (rest := [.ref b0]) ⟨hx, hb, hml, hown, hts⟩ (zX5_init l D cy sa b0 H.size) (cwI 0 hts (gB_K wB9) rfl rfl rfl (hts _ wB2) (hts _ wB7) (hts _ wB8) rfl (by decide +kernel) ⟨(Nat.le_of_ble_eq_true rfl), (Nat.le_of_ble_eq_true rfl)⟩) ⟨kP.blind, k_pre hPc hDc hS hE hA⟩ rfl rfl hl.1 rfl (lv_room (Nat.le_of_ble_eq_true rfl)) dL_law_4 ⟨(Nat.le_of_ble_eq_true rfl), (Nat.le_of_ble_eq_true rfl)⟩) hPc hDc hS hDc hA (fun q H locs hb0 hPn hDn hSn => ?_)
  clear hP hD hS hPc hDc
  subst hb0
  have hS := hSn
  have hP : va_P D vwCl (WX q cy kX0 ++ []) H := hPn
  have hD : va_D (l_A s) (WX q cy kX0 ++ []) := hDn
  clear hPn hDn hSn
  refine lv_astore_n (lv' := [(1, .ref (q 0)), (0, .ref (sa 10))]) hx hb dL_law_7 rfl hl (by decide) rfl (fun ls hl => ?_)
  refine W.widen (k := 1000) (n := 100000) (Nat.le_of_ble_eq_true rfl) (Nat.le_of_ble_eq_true rfl) ?_
  refine zL_lawA (cells := 1000) (slots := 100000) hx hb hml hr hown hts hlocks hA hE (Nat.le_of_ble_eq_true rfl) (Nat.le_of_ble_eq_true rfl) hP hD hS hl hfA (fun t H locs ls hP hD hS hl => ?_)
  refine lv_astore (lv' := [(5, .ref t), (4, .int 1), (2, .long 998244353), (1, .ref (q 0)), (0, .ref (sa 10))]) hx hb dL_law_41 hl (by decide) rfl (fun ls hl => ?_)
  have hP := k_qxP1 hP
  have hD := k_qxD1 hD
  have hl : lv_has ls 27 [(5, .ref (qx q t 27)), (4, .int 1), (2, .long 998244353), (1, .ref (qx q t 0)), (0, .ref (sa 10))] := hl
  generalize qx q t = q at hP hD hl
  refine zL_lawB (cells := 1000 + 1 + 1) (slots := 100000 + 64 + 64) hx hb hml hr hown hts hlocks hA hE (Nat.le_of_ble_eq_true rfl) (Nat.le_of_ble_eq_true rfl) hP hD hS hl hfB (fun H locs ls hP hD hS hl => ?_)
  have hP := k_xrP rfl hP
  have hD := k_xrD rfl hD
  refine lv_aload_n hx hb dL_law_1443 rfl (lv_at hl 1 rfl) ?_
  refine lv_iconst (v := 1) hx hb dL_law_1444 (by decide) ?_
  refine k_gol2 (va_runV (As := [.int 1]) (rest := []) ⟨hx, hb, hml, hown, hts⟩ (zX5_image_n l D cy sa q _ H.size rB.2 1 kk (by decide) (by decide) (by decide) hn hbec) (cwV 1 hts (gB_V wB571 wB572 wB573 wB2 wB574) rfl rfl rfl (by decide +kernel) ⟨(Nat.le_of_ble_eq_true rfl), (Nat.le_of_ble_eq_true rfl)⟩) ⟨kP.blind, k_recv hE hP (ci := 5) (q0 := 0) rfl rfl, k_pre hP hD hS hE hA⟩ rfl rfl hl.1 rfl (lv_room (Nat.le_of_ble_eq_true rfl)) dL_law_1445 ⟨(Nat.le_of_ble_eq_true rfl), (Nat.le_of_ble_eq_true rfl)⟩) hD hS hA (fun t2 H locs hP hD hS => ?_)
  exact zL_lawC (cells := 1000 + 1 + 1 + 7) (slots := 100000 + 64 + 64 + 194) hx hb hml hr hown hts hlocks hA hE rfl rfl (Nat.le_of_ble_eq_true rfl) (Nat.le_of_ble_eq_true rfl) hP hD hS hl (hfC (t2 0))
