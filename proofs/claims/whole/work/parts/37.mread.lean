/-! the model reads: what a call of it leaves -/
def RF (v v' : KS) : Prop := (∀ k, k = 0 ∨ 6 ≤ k → gI v' k = gI v k) ∧ (∀ k, k ≠ 6 ∧ k ≠ 7 → gR v' k = gR v k) ∧ gL v' = gL v ∧ gA v' = gA v ∧ gO v' = gO v
theorem RF.rf (v : KS) : RF v v := ⟨fun _ _ => rfl, fun _ _ => rfl, rfl, rfl, rfl⟩
theorem RF.tr {u v w : KS} (h : RF u v) (g : RF v w) : RF u w := ⟨fun k hk => (g.1 k hk).trans (h.1 k hk), fun k hk => (g.2.1 k hk).trans (h.2.1 k hk), g.2.2.1.trans h.2.2.1, g.2.2.2.1.trans h.2.2.2.1, g.2.2.2.2.trans h.2.2.2.2⟩
theorem RF.I {u v : KS} (h : RF u v) {k : Nat} (hk : 1 ≤ k ∧ k < 6) (x : Int32) : RF u (sI v k x) := ⟨fun j hj => by rw [s_II, if_neg (by omega)]; exact h.1 j hj, h.2.1, h.2.2.1, h.2.2.2.1, h.2.2.2.2⟩
theorem RF.R {u v : KS} (h : RF u v) {k : Nat} (hk : k = 6 ∨ k = 7) (f : Nat → Int32) : RF u (sR v k f) := ⟨h.1, fun j hj => by rw [s_RR, if_neg (by omega)]; exact h.2.1 j hj, h.2.2.1, h.2.2.2.1, h.2.2.2.2⟩
theorem RF.mf {v v' : KS} (h : RF v v') : MF v v' := ⟨h.1 0 (Or.inl rfl), fun k hk => h.2.1 k (by omega)⟩
theorem SC.rf6 {v v' : KS} (h : SC v v') : RF v v' := by
  have h2 := h.1
  refine ⟨fun k hk => h.2 k (by omega), fun k _ => by rw [h.R], ?_, ?_, ?_⟩
  · show (fun k => v'.2.2.1 k) = fun k => v.2.2.1 k
    rw [h2]
  · show (fun k => v'.2.2.2.1 k) = fun k => v.2.2.2.1 k
    rw [h2]
  · show v'.2.2.2.2 = v.2.2.2.2
    rw [h2]
/-- the model's rows hold these minutes -/
def MD (v : KS) (D : List (Nat × Nat)) : Prop := gI v 5 = nI D.length ∧ D.length ≤ 120 ∧ ∀ m, m < D.length → gR v 6 m = nI (dH D m + 4) ∧ gR v 7 m = nI (dL D m)
theorem MD.sc {v v' : KS} {D : List (Nat × Nat)} (h : MD v D) (g : SC v v') : MD v' D := by
  refine ⟨(g.2 5 (by decide)).trans h.1, h.2.1, ?_⟩
  rw [g.R]
  exact h.2.2
section RD6
variable {t : Nat → Int32} {L : Nat}
theorem tkk_le (s e : Nat) : tkk t s e ≤ 7 := by
  unfold tkk
  split
  · split
    · next w hw => have := wrd_le hw; omega
    · decide
  · split
    · split <;> decide
    · split <;> decide
theorem Sn_num {p : Nat} {v : KS} (hS : Sn t L p v) (hp : p ≤ L) (hL : L ≤ 120) : (∃ n, skp t L L p < L ∧ gI v 3 = 2 ∧ nmb t (skp t L L p) (tkE t L (skp t L L p)) = some n ∧ gI v 4 = nI n ∧ n ≤ 99 ∧ gI v 1 = nI (tkE t L (skp t L L p)) ∧ gI v 2 = nI (skp t L L p)) ∨ (¬ gI v 3 = 2 ∧ ∃ z, z ≤ L ∧ gI v 2 = nI z ∧ ∀ k it ld D, (k = 1 ∨ k = 2) → PR t L p (k, it, ld, D) = .inl z) := by
  obtain ⟨s, hs⟩ : ∃ s, skp t L L p = s := ⟨_, rfl⟩
  unfold Sn at hS
  rw [hs] at hS ⊢
  by_cases c : s < L
  · obtain ⟨a1, a2, a3, a4⟩ := hS.2 c
    have h7 := tkk_le (t := t) s (tkE t L s)
    cases hn : nmb t s (tkE t L s) with
    | some n =>
      left
      have h9 := nmb_le c hn
      refine ⟨n, c, ?_, rfl, a4 n hn, h9, a1, a2⟩
      unfold nmb at hn
      split at hn
      · next q =>
        rw [a3]
        unfold tkk
        rw [if_neg (by rw [q.1]; decide), if_pos q.1, if_pos q.2]
        rfl
      · cases hn
    | none =>
      right
      refine ⟨?_, s, Nat.le_of_lt c, a2, fun k it ld D hk => ?_⟩
      · rw [a3]
        intro q
        have q2 : tkk t s (tkE t L s) = 2 := (nI_eq (by omega) (by decide)).mp q
        unfold nmb at hn
        split at hn
        · cases hn
        · next r =>
          unfold tkk at q2
          split at q2
          · split at q2
            · omega
            · omega
          · split at q2
            · next r2 =>
              split at q2
              · next r3 => exact r ⟨r2, r3⟩
              · omega
            · split at q2 <;> omega
      · refine PR_bad hs c ?_
        rcases hk with hk | hk <;> subst hk
        · show (nmb t s (tkE t L s)).bind _ = none
          rw [hn]; rfl
        · show (nmb t s (tkE t L s)).bind _ = none
          rw [hn]; rfl
  · obtain ⟨a1, a2⟩ := hS.1 c
    right
    refine ⟨by rw [a1]; decide, L, Nat.le_refl _, a2, fun k it ld D hk => ?_⟩
    rw [PR_end (by rw [hs]; exact c), if_neg (show ¬ k = 0 by omega)]
theorem Sn_end {p : Nat} {v : KS} (hS : Sn t L p v) (hp : p ≤ L) (hL : L ≤ 120) : (skp t L L p < L ∧ gI v 3 = 3 ∧ gI v 1 = nI (tkE t L (skp t L L p)) ∧ (t (skp t L L p)).toInt = 59) ∨ (¬ gI v 3 = 3 ∧ ∃ z, z ≤ L ∧ gI v 2 = nI z ∧ ∀ it ld D, PR t L p (3, it, ld, D) = .inl z) := by
  obtain ⟨s, hs⟩ : ∃ s, skp t L L p = s := ⟨_, rfl⟩
  unfold Sn at hS
  rw [hs] at hS ⊢
  by_cases c : s < L
  · obtain ⟨a1, a2, a3, a4⟩ := hS.2 c
    have h7 := tkk_le (t := t) s (tkE t L s)
    by_cases c9 : (t s).toInt = 59
    · left
      refine ⟨c, ?_, a1, c9⟩
      rw [a3]
      unfold tkk
      rw [c9, if_neg (by decide), if_neg (by decide), if_pos rfl]
      rfl
    · right
      refine ⟨?_, s, Nat.le_of_lt c, a2, fun it ld D => PR_bad hs c (if_neg c9)⟩
      rw [a3]
      intro q
      have q2 : tkk t s (tkE t L s) = 3 := (nI_eq (by omega) (by decide)).mp q
      unfold tkk at q2
      split at q2
      · split at q2 <;> omega
      · split at q2
        · split at q2 <;> omega
        · first | omega | (rw [if_neg c9] at q2; omega)
  · obtain ⟨a1, a2⟩ := hS.1 c
    right
    refine ⟨by rw [a1]; decide, L, Nat.le_refl _, a2, fun it ld D => ?_⟩
    rw [PR_end (by rw [hs]; exact c), if_neg (show ¬ 3 = 0 by decide)]
theorem Sn_word {p : Nat} {v : KS} (hS : Sn t L p v) (hp : p ≤ L) (hL : L ≤ 120) : (gI v 3 = 0 ∧ ∀ it ld D, PR t L p (0, it, ld, D) = .inr D) ∨ (∃ w, skp t L L p < L ∧ w ≤ 3 ∧ gI v 3 = nI (w + 4) ∧ gI v 1 = nI (tkE t L (skp t L L p)) ∧ wrd t (skp t L L p) (tkE t L (skp t L L p)) = some w) ∨ (¬ gI v 3 = 0 ∧ ¬ 4 ≤ gI v 3 ∧ ∃ z, z ≤ L ∧ gI v 2 = nI z ∧ ∀ it ld D, PR t L p (0, it, ld, D) = .inl z) := by
  obtain ⟨s, hs⟩ : ∃ s, skp t L L p = s := ⟨_, rfl⟩
  unfold Sn at hS
  rw [hs] at hS ⊢
  by_cases c : s < L
  · obtain ⟨a1, a2, a3, a4⟩ := hS.2 c
    have h7 := tkk_le (t := t) s (tkE t L s)
    right
    cases hw : wrd t s (tkE t L s) with
    | some w =>
      left
      refine ⟨w, c, wrd_le hw, ?_, a1, rfl⟩
      rw [a3]
      unfold tkk
      rw [if_pos (wrd_sort hw), hw]
    | none =>
      right
      have hk : 1 ≤ tkk t s (tkE t L s) ∧ tkk t s (tkE t L s) ≤ 3 := by
        unfold tkk
        rw [hw]
        split
        · decide
        · split
          · split <;> decide
          · split <;> decide
      refine ⟨?_, ?_, s, Nat.le_of_lt c, a2, fun it ld D => PR_bad hs c ?_⟩
      · rw [a3]
        intro q
        have := (nI_eq (b := 0) (by omega) (by decide)).mp q
        omega
      · rw [a3]
        exact nI_ge (b := 4) (by omega) (by decide)
      · show (wrd t s (tkE t L s)).map _ = none
        rw [hw]; rfl
  · obtain ⟨a1, a2⟩ := hS.1 c
    left
    refine ⟨a1, fun it ld D => ?_⟩
    rw [PR_end (by rw [hs]; exact c), if_pos rfl]
theorem e_fill6 {v : KS} {D : List (Nat × Nat)} {n it ld : Nat} (hM : MD v D) (h4 : gI v 4 = nI n) (hn : D.length + n ≤ 120) : ∃ v', lpF (mX6_reads_s120 (nI (it + 4)) (nI ld)) (0, v) = some v' ∧ RF v v' ∧ gI v' 1 = gI v 1 ∧ MD v' (D ++ List.replicate n (it, ld)) := by
  have e := lp_fd0 (S := mX6_reads_s120 (nI (it + 4)) (nI ld)) (fun k (x : (Nat → Int32) × (Nat → Int32)) => (nI k, sR (sR (sI v 5 (nI (D.length + k))) 6 x.1) 7 x.2)) (fun k x => (upd x.1 (D.length + k) (nI (it + 4)), upd x.2 (D.length + k) (nI ld))) (fun x => sR (sR (sI v 5 (nI (D.length + n))) 6 x.1) 7 x.2) n (gR v 6, gR v 7)
    (fun k x hk => by
      unfold mX6_reads_s120
      dsimp only
      rw [show gI (sR (sR (sI v 5 (nI (D.length + k))) 6 x.1) 7 x.2) 4 = gI v 4 from rfl, show gI (sR (sR (sI v 5 (nI (D.length + k))) 6 x.1) 7 x.2) 5 = nI (D.length + k) from rfl, show gR (sR (sR (sI v 5 (nI (D.length + k))) 6 x.1) 7 x.2) 6 = x.1 from rfl, show gR (sR (sR (sI v 5 (nI (D.length + k))) 6 x.1) 7 x.2) 7 = x.2 from rfl, h4, if_neg (nI_ge hk (by omega)), gd_t (i_k (by omega) (by decide)), gd_t (i_k (by omega) (by decide)), i_cl (by omega), i_s, i_s]
      refine congrArg (fun y => some (Sum.inr (nI (k + 1), y))) ?_
      rw [← sR_sI, sR_c _ _ _ (show 7 ≠ 6 by decide), sR_sR, ← sR_sI, sI_sI]
      rw [sR_sR]
      rfl)
    (fun x => by
      unfold mX6_reads_s120
      dsimp only
      rw [show gI (sR (sR (sI v 5 (nI (D.length + n))) 6 x.1) 7 x.2) 4 = gI v 4 from rfl, h4, if_pos (Int32.le_refl _)])
  dsimp only at e
  have e0 : sR (sR (sI v 5 (nI (D.length + 0))) 6 (gR v 6)) 7 (gR v 7) = v := by
    rw [Nat.add_zero, ← hM.1, sI_self, sR_self, sR_self]
  rw [e0] at e
  refine ⟨_, e, (((RF.rf v).I (k := 5) (by decide) _).R (Or.inl rfl) _).R (Or.inr rfl) _, rfl, ?_⟩
  have hfd : ∀ m, fd (fun k (x : (Nat → Int32) × (Nat → Int32)) => (upd x.1 (D.length + k) (nI (it + 4)), upd x.2 (D.length + k) (nI ld))) m (gR v 6, gR v 7) = (fd (fun k x => upd x (D.length + k) (nI (it + 4))) m (gR v 6), fd (fun k x => upd x (D.length + k) (nI ld)) m (gR v 7)) := by
    intro m
    induction m with
    | zero => rfl
    | succ m ih => rw [fd_s, ih]; rfl
  rw [hfd]
  refine ⟨by rw [len_app]; rfl, by rw [len_app]; exact hn, fun m hm => ?_⟩
  rw [len_app] at hm
  rw [dH_app, dL_app]
  show fd (fun k x => upd x (D.length + k) (nI (it + 4))) n (gR v 6) m = _ ∧ fd (fun k x => upd x (D.length + k) (nI ld)) n (gR v 7) m = _
  rw [fd_up D.length (fun _ => nI (it + 4)), fd_up D.length (fun _ => nI ld)]
  by_cases c : m < D.length
  · rw [if_pos c, if_pos c, if_neg (by omega), if_neg (by omega)]
    exact hM.2.2 m c
  · rw [if_neg c, if_neg c, if_pos (by omega), if_pos (by omega), if_pos (show D.length ≤ m ∧ m < D.length + n by omega), if_pos hm]
    exact ⟨rfl, rfl⟩
/-- behind the load: the span, its end -/
noncomputable def rdT (c1 c2 : Int32) (r76 : KS) : Option ((KS ⊕ KS ⊕ KS ⊕ KS ⊕ KS) ⊕ KS) :=
  if (gI r76 3) = 2 then
  ((mX6_in ((gI r76 4).toInt64) 1 60).bind fun r96 =>
  if r96 = 0 then
  (some (.inl (.inr (.inr (.inr (.inl r76))))))
  else
  (if ((gI r76 5) + (gI r76 4)) ≤ 120 then
  ((lpF (mX6_reads_s120 c1 c2) (0, r76)).bind fun e120 =>
  (mX6_scans e120).bind fun r165 =>
  if (gI r165 3) = 3 then
  ((mX6_scans r165).bind fun r179 =>
  some (.inr r179))
  else
  (some (.inl (.inr (.inr (.inr (.inr r165)))))))
  else
  (some (.inl (.inr (.inr (.inr (.inl r76))))))))
  else
  (some (.inl (.inr (.inr (.inr (.inl r76))))))
theorem rd14 (s14 : KS) : mX6_reads_s14 s14 = if (gI s14 3) = 0 then (some (.inl (.inl s14))) else (if 4 ≤ (gI s14 3) then ((mX6_scans s14).bind fun r36 => if (gI s14 3) = 6 then (if (gI r36 3) = 2 then ((mX6_in ((gI r36 4).toInt64) 1 9).bind fun r62 => if r62 = 0 then (some (.inl (.inr (.inr (.inl r36))))) else ((mX6_scans r36).bind fun r76 => rdT (gI s14 3) (gI r36 4) r76)) else (some (.inl (.inr (.inr (.inl r36)))))) else rdT (gI s14 3) 0 r36) else (some (.inl (.inr (.inl s14))))) := rfl
noncomputable def rdA : (KS ⊕ KS ⊕ KS ⊕ KS ⊕ KS) → Option (Int32 × KS) := oE (fun e14_0 => some (1, e14_0)) (oE (fun e14_1 => some (0, e14_1)) (oE (fun e14_2 => some (0, e14_2)) (oE (fun e14_3 => some (0, e14_3)) (fun e14_4 => some (0, e14_4)))))
/-- what a step of the model's loop may come to -/
def RdS (t : Nat → Int32) (L p : Nat) (v : KS) (x : TS) (y : (KS ⊕ KS ⊕ KS ⊕ KS ⊕ KS) ⊕ KS) : Prop := (∃ e w z, y = .inl e ∧ rdA e = some (0, w) ∧ RF v w ∧ gI w 2 = nI z ∧ PR t L p x = .inl z) ∨ (∃ w p' D it ld, y = .inr w ∧ RF v w ∧ p < p' ∧ p' ≤ L ∧ Sn t L p' w ∧ MD w D ∧ PR t L p x = PR t L p' (0, it, ld, D))
theorem e_rdT {v : KS} {p it ld : Nat} {D : List (Nat × Nat)} (hL : L ≤ 120) (hp : p ≤ L) (hB : Bk v t L) (hS : Sn t L p v) (hM : MD v D) : ∃ y, rdT (nI (it + 4)) (nI ld) v = some y ∧ RdS t L p v (2, it, ld, D) y := by
  unfold rdT
  rcases Sn_num hS hp hL with ⟨n, b1, b2, b3, b4, b5, b6, b7⟩ | ⟨b1, z, b2, b3, b4⟩
  · obtain ⟨s, hs⟩ : ∃ s, skp t L L p = s := ⟨_, rfl⟩
    rw [hs] at b1 b3 b6 b7
    have g1 := skp_ge (t := t) (L := L) L p
    rw [hs] at g1
    have k1 := tkE_gt (t := t) (L := L) s
    have k2 := tkE_le (t := t) b1
    have hM2 := hM.2.1
    have eT : tst t s (tkE t L s) (2, it, ld, D) = if 1 ≤ n ∧ n ≤ 60 ∧ D.length + n ≤ 120 then some (3, it, ld, D ++ List.replicate n (it, ld)) else none := by
      show (nmb t s (tkE t L s)).bind _ = _
      rw [b3]; rfl
    have zn : (nI n).toInt = (n : Int) := z_nN (by omega)
    rw [if_pos b2, b4, e_inc (nI n) 1 60 (l := 1) (h := 60) rfl rfl, bs, b_i2, hM.1, i_add]
    have e120 : (nI (D.length + n) ≤ 120) ↔ D.length + n ≤ 120 := nI_leI (b := 120) (by omega) (by decide)
    by_cases c1 : 1 ≤ (nI n).toInt ∧ (nI n).toInt ≤ 60
    · rw [if_pos c1]
      by_cases c2 : D.length + n ≤ 120
      · rw [if_pos (e120.mpr c2)]
        obtain ⟨v1, q1, q2, q3, q4⟩ := e_fill6 (it := it) (ld := ld) hM b4 c2
        have hB1 : Bk v1 t L := hB.mf q2.mf
        obtain ⟨v2, w1, w2, w3⟩ := e_scans (p := tkE t L s) hL hB1 (q3.trans b6) k2
        have hPR := PR_go hp hs b1 (eT.trans (if_pos ⟨by omega, by omega, c2⟩))
        rw [q1, bs, w1, bs]
        rcases Sn_end w3 k2 hL with ⟨d1, d2, d3, d4⟩ | ⟨d1, z, d2, d3, d4⟩
        · obtain ⟨s2, hs2⟩ : ∃ z, skp t L L (tkE t L s) = z := ⟨_, rfl⟩
          rw [hs2] at d1 d3 d4
          have g2 := skp_ge (t := t) (L := L) L (tkE t L s)
          rw [hs2] at g2
          have k3 := tkE_gt (t := t) (L := L) s2
          have k4 := tkE_le (t := t) d1
          obtain ⟨v3, f1, f2, f3⟩ := e_scans (p := tkE t L s2) hL (hB1.mf w2.MF) d3 k4
          rw [if_pos d2, f1, bs]
          refine ⟨_, rfl, Or.inr ⟨v3, tkE t L s2, _, it, ld, rfl, q2.tr (w2.rf6.tr f2.rf6), by omega, k4, f3, (q4.sc w2).sc f2, ?_⟩⟩
          rw [hPR]
          exact PR_go k2 hs2 d1 (if_pos d4)
        · rw [if_neg d1]
          exact ⟨_, rfl, Or.inl ⟨_, v2, z, rfl, rfl, q2.tr w2.rf6, d3, hPR.trans (d4 _ _ _)⟩⟩
      · rw [if_neg (fun q => c2 (e120.mp q))]
        exact ⟨_, rfl, Or.inl ⟨_, v, s, rfl, rfl, RF.rf v, b7, PR_bad hs b1 (eT.trans (if_neg (by omega)))⟩⟩
    · rw [if_neg c1]
      exact ⟨_, rfl, Or.inl ⟨_, v, s, rfl, rfl, RF.rf v, b7, PR_bad hs b1 (eT.trans (if_neg (by omega)))⟩⟩
  · rw [if_neg b1]
    exact ⟨_, rfl, Or.inl ⟨_, v, z, rfl, rfl, RF.rf v, b3, b4 2 it ld D (Or.inr rfl)⟩⟩
theorem e_rd14 {v : KS} {p it0 ld0 : Nat} {D : List (Nat × Nat)} (hL : L ≤ 120) (hp : p ≤ L) (hB : Bk v t L) (hS : Sn t L p v) (hM : MD v D) : (mX6_reads_s14 v = some (.inl (.inl v)) ∧ PR t L p (0, it0, ld0, D) = .inr D) ∨ ∃ y, mX6_reads_s14 v = some y ∧ RdS t L p v (0, it0, ld0, D) y := by
  rw [rd14]
  rcases Sn_word hS hp hL with ⟨b1, b2⟩ | ⟨w, b1, b2, b3, b4, b5⟩ | ⟨b1, b2, z, b3, b4, b5⟩
  · left
    rw [if_pos b1]
    exact ⟨rfl, b2 _ _ _⟩
  · right
    obtain ⟨s, hs⟩ : ∃ s, skp t L L p = s := ⟨_, rfl⟩
    rw [hs] at b1 b4 b5
    have g1 := skp_ge (t := t) (L := L) L p
    rw [hs] at g1
    have k1 := tkE_gt (t := t) (L := L) s
    have k2 := tkE_le (t := t) b1
    have eT : tst t s (tkE t L s) (0, it0, ld0, D) = some (if w = 2 then 1 else 2, w, 0, D) := by
      show (wrd t s (tkE t L s)).map _ = _
      rw [b5]; rfl
    have hPR := PR_go hp hs b1 eT
    obtain ⟨v1, w1, w2, w3⟩ := e_scans (p := tkE t L s) hL hB b4 k2
    have hB1 := hB.mf w2.MF
    have hM1 := hM.sc w2
    rw [b3, if_neg (show ¬ nI (w + 4) = 0 from fun q => by have := (nI_eq (b := 0) (by omega) (by decide)).mp q; omega), if_pos (show 4 ≤ nI (w + 4) from nI_le (a := 4) (by omega) (by omega)), w1, bs]
    have e6 : (nI (w + 4) = 6) ↔ w = 2 := by
      rw [show (6 : Int32) = nI 6 from rfl, nI_eq (by omega) (by decide)]; omega
    have up : ∀ {q : Nat} {v2 : KS} {x : TS} {y}, tkE t L s ≤ q → RF v v2 → RdS t L q v2 x y → PR t L p (0, it0, ld0, D) = PR t L q x → RdS t L p v (0, it0, ld0, D) y := by
      intro q v2 x y hq hF hR hE
      rcases hR with ⟨e, a, z, c1, c2, c3, c4, c5⟩ | ⟨a, p', D', i', l', c1, c2, c3, c4, c5, c6, c7⟩
      · exact Or.inl ⟨e, a, z, c1, c2, hF.tr c3, c4, hE.trans c5⟩
      · exact Or.inr ⟨a, p', D', i', l', c1, hF.tr c2, by omega, c4, c5, c6, hE.trans c7⟩
    by_cases c : w = 2
    · subst c
      rw [if_pos rfl] at hPR
      rw [if_pos (show nI (2 + 4) = 6 from rfl)]
      rcases Sn_num w3 k2 hL with ⟨n, d1, d2, d3, d4, d5, d6, d7⟩ | ⟨d1, z, d2, d3, d4⟩
      · obtain ⟨s2, hs2⟩ : ∃ z, skp t L L (tkE t L s) = z := ⟨_, rfl⟩
        rw [hs2] at d1 d3 d6 d7
        have g2 := skp_ge (t := t) (L := L) L (tkE t L s)
        rw [hs2] at g2
        have k3 := tkE_gt (t := t) (L := L) s2
        have k4 := tkE_le (t := t) d1
        have eT2 : tst t s2 (tkE t L s2) (1, 2, 0, D) = if 1 ≤ n ∧ n ≤ 9 then some (2, 2, n, D) else none := by
          show (nmb t s2 (tkE t L s2)).bind _ = _
          rw [d3]; rfl
        have zn : (nI n).toInt = (n : Int) := z_nN (by omega)
        rw [if_pos d2, d4, e_inc (nI n) 1 9 (l := 1) (h := 9) rfl rfl, bs, b_i2]
        by_cases c1 : 1 ≤ (nI n).toInt ∧ (nI n).toInt ≤ 9
        · rw [if_pos c1]
          obtain ⟨v2, f1, f2, f3⟩ := e_scans (p := tkE t L s2) hL hB1 d6 k4
          rw [f1, bs]
          obtain ⟨y, y1, y2⟩ := e_rdT (it := 2) (ld := n) hL k4 (hB1.mf f2.MF) f3 (hM1.sc f2)
          refine ⟨y, y1, up (by omega) (w2.rf6.tr f2.rf6) y2 ?_⟩
          rw [hPR]
          exact PR_go k2 hs2 d1 (eT2.trans (if_pos (by omega)))
        · rw [if_neg c1]
          refine ⟨_, rfl, Or.inl ⟨_, v1, s2, rfl, rfl, w2.rf6, d7, ?_⟩⟩
          rw [hPR]
          exact PR_bad hs2 d1 (eT2.trans (if_neg (by omega)))
      · rw [if_neg d1]
        exact ⟨_, rfl, Or.inl ⟨_, v1, z, rfl, rfl, w2.rf6, d3, hPR.trans (d4 1 _ _ _ (Or.inl rfl))⟩⟩
    · rw [if_neg c] at hPR
      rw [if_neg (fun q => c (e6.mp q))]
      obtain ⟨y, y1, y2⟩ := e_rdT (it := w) (ld := 0) hL k2 hB1 w3 hM1
      exact ⟨y, y1, up (Nat.le_refl _) w2.rf6 y2 hPR⟩
  · right
    rw [if_neg b1, if_neg b2]
    exact ⟨_, rfl, Or.inl ⟨_, v, z, rfl, rfl, RF.rf v, b4, b5 _ _ _⟩⟩
theorem e_rdL (hL : L ≤ 120) : ∀ (N p : Nat) (v : KS) (it0 ld0 : Nat) (D : List (Nat × Nat)), L - p < N → p ≤ L → Bk v t L → Sn t L p v → MD v D → ∃ e w, lpF mX6_reads_s14 v = some e ∧ RF v w ∧ ((∃ z, rdA e = some (0, w) ∧ gI w 2 = nI z ∧ PR t L p (0, it0, ld0, D) = .inl z) ∨ (∃ D', rdA e = some (1, w) ∧ MD w D' ∧ PR t L p (0, it0, ld0, D) = .inr D')) := by
  intro N
  induction N with
  | zero => intro p v it0 ld0 D h; exact absurd h (Nat.not_lt_zero _)
  | succ N ih =>
    intro p v it0 ld0 D hN hp hB hS hM
    rcases e_rd14 (it0 := it0) (ld0 := ld0) hL hp hB hS hM with ⟨a1, a2⟩ | ⟨y, a1, a2⟩
    · exact ⟨_, v, lp_stop a1, RF.rf v, Or.inr ⟨D, rfl, hM, a2⟩⟩
    · rcases a2 with ⟨e, w, z, rfl, c2, c3, c4, c5⟩ | ⟨w, p', D', i', l', rfl, c2, c3, c4, c5, c6, c7⟩
      · exact ⟨e, w, lp_stop a1, c3, Or.inl ⟨z, c2, c4, c5⟩⟩
      · obtain ⟨e, w2, d1, d2, d3⟩ := ih p' w i' l' D' (by omega) c4 (hB.mf c2.mf) c5 c6
        refine ⟨e, w2, by rw [lp_go a1]; exact d1, c2.tr d2, ?_⟩
        rw [c7]
        exact d3
theorem e_reads6 {v : KS} (hL : L ≤ 120) (hB : Bk v t L) : ∃ v', mX6_reads v = some (if (day t L).isLeft then 0 else 1, v') ∧ RF v v' ∧ (match day t L with
    | .inl s => gI v' 2 = nI s
    | .inr D => MD v' D) := by
  obtain ⟨w0, hw0⟩ : ∃ w0 : KS, w0 = sI (sI v 1 0) 5 0 := ⟨_, rfl⟩
  have f0 : RF v w0 := by rw [hw0]; exact ((RF.rf v).I (k := 1) (by decide) _).I (k := 5) (by decide) _
  have hB0 := hB.mf f0.mf
  have h1 : gI w0 1 = nI 0 := by rw [hw0]; rfl
  have hM0 : MD w0 [] := by rw [hw0]; exact ⟨rfl, (show (0 : Nat) ≤ 120 by decide), fun m hm => absurd hm (Nat.not_lt_zero _)⟩
  obtain ⟨v1, q1, q2, q3⟩ := e_scans (p := 0) hL hB0 h1 (Nat.zero_le _)
  obtain ⟨e, w, d1, d2, d3⟩ := e_rdL hL (L + 1) 0 v1 0 0 [] (by omega) (Nat.zero_le _) (hB0.mf q2.MF) q3 (hM0.sc q2)
  have hday : day t L = PR t L 0 (0, 0, 0, []) := rfl
  have hf : RF v w := f0.tr (q2.rf6.tr d2)
  have hr : mX6_reads v = rdA e := by
    unfold mX6_reads
    rw [← hw0, q1, bs, d1, bs]
    rfl
  rw [hr, hday]
  rcases d3 with ⟨z, c1, c2, c3⟩ | ⟨D', c1, c2, c3⟩
  · rw [c3]
    exact ⟨w, c1, hf, c2⟩
  · rw [c3]
    exact ⟨w, c1, hf, c2⟩
end RD6
/-! faulty, minutes -/
theorem MF_Img {o : Option KS} {v v' : KS} {i : Nat} (h : Img o v i) (g : MF v v') : Img o v' i := Img_cg h (by rw [g.2 2 (by decide)]) (fun j _ => by rw [g.2 1 (by decide)])
theorem MF_FR {u v v' : KS} (h : FR u v) (g : MF v v') : FR u v' := by
  obtain ⟨h0, x, y, hb, hk, hw⟩ := h
  refine ⟨g.1.trans h0, x, y, hb, ?_, ?_⟩
  · rw [g.2 4 (by decide)]; exact hk
  · rw [g.2 5 (by decide)]; exact hw
theorem RelD.mf {u v v' : KS} {k0 k1 : Option KS} {L K P : Nat} (h : RelD u k0 k1 v L K P) (g : MF v v') : RelD u k0 k1 v' L K P := by
  obtain ⟨a1, a2, a3, a4, a5, a6, a7, a8⟩ := h
  refine ⟨?_, MF_Img a2 g, MF_Img a3 g, ?_, MF_FR a5 g, ?_, a7, ?_⟩
  · rw [g.2 0 (by decide)]; exact a1
  · intro j hj; rw [g.2 3 (by decide)]; exact a4 j hj
  · rw [g.2 0 (by decide)]; exact a6
  · rw [g.2 0 (by decide)]; exact a8
theorem RelD.bk {u v : KS} {k0 k1 : Option KS} {L K P : Nat} (h : RelD u k0 k1 v L K P) : L ≤ 120 ∧ Bk v (tx (gR v 0)) L := ⟨h.1.1.1, h.1.1.2.2.1, fun _ _ => rfl⟩
theorem lm_faulty : LM_faulty Rel := by
  intro u k0 k1 v hR
  obtain ⟨u', L, K, P, q1, q2, q3⟩ := rel_day hR
  obtain ⟨hL, hB⟩ := q2.bk
  obtain ⟨v', r1, r2, r3⟩ := e_reads6 hL hB
  have hd := q2.2.2.2.2.2.2.2
  unfold DayOk at hd
  refine ⟨gI u' 5, u', v', ?_, ?_, (q2.mf r2.mf).rel, q3⟩
  · unfold mX5_faulty
    rw [q1, bs]
  · unfold mX6_faulty
    rw [r1, bs]
    cases hr : day (tx (gR v 0)) L with
    | inl s =>
      rw [hr] at r3 hd
      rw [hd.1, show gI v' 2 = nI s from r3]
      rfl
    | inr D =>
      rw [hr] at hd
      rw [hd.1]
      rfl
theorem lm_minutes : LM_minutes Rel := by
  intro u k0 k1 v hR
  obtain ⟨u', L, K, P, q1, q2, q3⟩ := rel_faulty hR
  obtain ⟨hL, hB⟩ := q2.bk
  obtain ⟨v', r1, r2, r3⟩ := e_reads6 hL hB
  have hd := q2.2.2.2.2.2.2.2
  unfold DayOk at hd
  unfold mX5_minutes mX6_minutes
  rw [q1, r1, bs, bs]
  cases hr : day (tx (gR v 0)) L with
  | inl s =>
    refine ⟨-3, b5 u' 1, b6 v' 1, ?_, ?_, Rel_b (q2.mf r2.mf).rel (by decide), q3⟩
    · exact congrArg (fun o => Option.bind o fun r8 => some (r8.1, r8.2)) (e_no5 u')
    · exact congrArg (fun o => Option.bind o fun r8 => some (r8.1, r8.2)) (e_no6 v')
  | inr D =>
    rw [hr] at r3 hd
    refine ⟨nI D.length, u', v', ?_, ?_, (q2.mf r2.mf).rel, q3⟩
    · rw [← hd.2.1]; rfl
    · rw [← (show MD v' D from r3).1]; rfl
