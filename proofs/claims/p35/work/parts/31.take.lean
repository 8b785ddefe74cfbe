/-! the class reads the day -/
theorem va_upC {α : Type} (f : Nat → α) {k j : Nat} (x y : α) (h : k ≠ j) : va_up (va_up f k x) j y = va_up (va_up f j y) k x := by
  funext i
  unfold va_up
  by_cases h1 : i = j
  · rw [if_pos h1, if_neg (by omega), if_pos h1]
  · rw [if_neg h1]
    by_cases h2 : i = k
    · rw [if_pos h2, if_pos h2]
    · rw [if_neg h2, if_neg h2, if_neg h1]
theorem sR_c (u : KS) {k j : Nat} (f g : Nat → Int32) (h : k ≠ j) : sR (sR u k f) j g = sR (sR u j g) k f := by
  show (u.1, va_up (va_up u.2.1 k f) j g, u.2.2) = (u.1, va_up (va_up u.2.1 j g) k f, u.2.2)
  rw [va_upC _ _ _ h]
theorem sI_c (u : KS) {k j : Nat} (f g : Int32) (h : k ≠ j) : sI (sI u k f) j g = sI (sI u j g) k f := by
  show (va_up (va_up u.1 k f) j g, u.2) = (va_up (va_up u.1 j g) k f, u.2)
  rw [va_upC _ _ _ h]
theorem s89 (u : KS) (a b : Int32) (x y r q : Nat → Int32) : sR (sR (sI (sR (sR (sI u 6 a) 8 x) 9 y) 6 b) 8 r) 9 q = sR (sR (sI u 6 b) 8 r) 9 q := by
  rw [sI_sR, sI_sR, sI_sI, sR_c _ y r (by decide), sR_sR, sR_sR]
def DF (u u' : KS) : Prop := (∀ k, k < 5 ∨ 10 ≤ k → gI u' k = gI u k) ∧ (∀ k, k < 7 ∨ 11 ≤ k → gR u' k = gR u k) ∧ gL u' = gL u ∧ gA u' = gA u ∧ gO u' = gO u
theorem DF.rf (u : KS) : DF u u := ⟨fun _ _ => rfl, fun _ _ => rfl, rfl, rfl, rfl⟩
theorem DF.tr {u v w : KS} (h : DF u v) (g : DF v w) : DF u w := ⟨fun k hk => (g.1 k hk).trans (h.1 k hk), fun k hk => (g.2.1 k hk).trans (h.2.1 k hk), g.2.2.1.trans h.2.2.1, g.2.2.2.1.trans h.2.2.2.1, g.2.2.2.2.trans h.2.2.2.2⟩
theorem DF.I {u v : KS} (h : DF u v) {k : Nat} (hk : 5 ≤ k ∧ k < 10) (x : Int32) : DF u (sI v k x) := ⟨fun j hj => by rw [s_II, if_neg (by omega)]; exact h.1 j hj, h.2.1, h.2.2.1, h.2.2.2.1, h.2.2.2.2⟩
theorem DF.R {u v : KS} (h : DF u v) {k : Nat} (hk : 7 ≤ k ∧ k < 11) (f : Nat → Int32) : DF u (sR v k f) := ⟨h.1, fun j hj => by rw [s_RR, if_neg (by omega)]; exact h.2.1 j hj, h.2.2.1, h.2.2.2.1, h.2.2.2.2⟩
def Dar (u : KS) (D : List (Nat × Nat)) : Prop := gI u 6 = nI D.length ∧ D.length ≤ 120 ∧ ∀ m, m < D.length → gR u 8 m = nI (dH D m) ∧ gR u 9 m = nI (dL D m)
def CS (u : KS) (x : TS) : Prop := gI u 7 = nI x.1 ∧ x.1 ≤ 3 ∧ Dar u x.2.2.2 ∧ (x.1 = 1 ∨ x.1 = 2 → gI u 8 = nI x.2.1) ∧ (x.1 = 2 → gI u 9 = nI x.2.2.1)
theorem dH_app {D : List (Nat × Nat)} {n it ld m : Nat} : dH (D ++ List.replicate n (it, ld)) m = if m < D.length then dH D m else if m < D.length + n then it else 0 := by
  unfold dH
  rw [List.getD_eq_getElem?_getD, List.getD_eq_getElem?_getD]
  by_cases h : m < D.length
  · rw [if_pos h, List.getElem?_append_left h]
  · rw [if_neg h, List.getElem?_append_right (by omega), List.getElem?_replicate]
    by_cases h2 : m < D.length + n
    · rw [if_pos h2, if_pos (by omega)]; rfl
    · rw [if_neg h2, if_neg (by omega)]; rfl
theorem dL_app {D : List (Nat × Nat)} {n it ld m : Nat} : dL (D ++ List.replicate n (it, ld)) m = if m < D.length then dL D m else if m < D.length + n then ld else 0 := by
  unfold dL
  rw [List.getD_eq_getElem?_getD, List.getD_eq_getElem?_getD]
  by_cases h : m < D.length
  · rw [if_pos h, List.getElem?_append_left h]
  · rw [if_neg h, List.getElem?_append_right (by omega), List.getElem?_replicate]
    by_cases h2 : m < D.length + n
    · rw [if_pos h2, if_pos (by omega)]; rfl
    · rw [if_neg h2, if_neg (by omega)]; rfl
theorem len_app {D : List (Nat × Nat)} {n it ld : Nat} : (D ++ List.replicate n (it, ld)).length = D.length + n := by
  rw [List.length_append, List.length_replicate]
theorem e_lastsF {u : KS} {a : Int32} {l : Nat} (h6 : gI u 6 = nI l) (hl : l ≤ 120) (c : ¬ (1 ≤ a.toInt ∧ a.toInt ≤ 60 ∧ (l : Int) + a.toInt ≤ 120)) : mX0_lasts u a = some (0, u) := by
  unfold mX0_lasts
  by_cases c1 : a < 1
  · rw [if_pos c1]
  · rw [if_neg c1]
    by_cases c2 : 60 < a
    · rw [if_pos c2]
    · rw [if_neg c2, h6, if_neg]
      have e : (nI l + a).toInt = l + a.toInt := by
        rw [z_addc (by rw [z_nN (by omega)]; (simp only [z_lt, z_le, z_gt, z_ge, z_eq, zm1, zm2, Int32.reduceToInt] at *; omega)) (by rw [z_nN (by omega)]; (simp only [z_lt, z_le, z_gt, z_ge, z_eq, zm1, zm2, Int32.reduceToInt] at *; omega)), z_nN (by omega)]
      rw [z_le, e]
      have e1 : (120 : Int32).toInt = 120 := rfl
      rw [e1]
      (simp only [z_lt, z_le, z_gt, z_ge, z_eq, zm1, zm2, Int32.reduceToInt] at *; omega)
theorem e_lastsT {u : KS} {D : List (Nat × Nat)} {n it ld : Nat} (hD : Dar u D) (h8 : gI u 8 = nI it) (h9 : gI u 9 = nI ld) (hn : 1 ≤ n ∧ n ≤ 60 ∧ D.length + n ≤ 120) : ∃ u', mX0_lasts u (nI n) = some (1, u') ∧ DF u u' ∧ gI u' 5 = gI u 5 ∧ gI u' 7 = gI u 7 ∧ Dar u' (D ++ List.replicate n (it, ld)) := by
  obtain ⟨h6, hl, hm⟩ := hD
  have e := lp_fd0 (S := mX0_lasts_s26 (nI n)) (fun k (x : (Nat → Int32) × (Nat → Int32)) => (nI k, sR (sR (sI u 6 (nI (D.length + k))) 8 x.1) 9 x.2)) (fun k x => (upd x.1 (D.length + k) (nI it), upd x.2 (D.length + k) (nI ld))) (fun x => sR (sR (sI u 6 (nI (D.length + n))) 8 x.1) 9 x.2) n (gR u 8, gR u 9)
    (fun k x hk => by
      unfold mX0_lasts_s26
      dsimp only
      rw [if_neg (nI_ge hk (by omega)), show gI (sR (sR (sI u 6 (nI (D.length + k))) 8 x.1) 9 x.2) 6 = nI (D.length + k) from rfl, show gI (sR (sR (sI u 6 (nI (D.length + k))) 8 x.1) 9 x.2) 8 = gI u 8 from rfl, show gI (sR (sR (sI u 6 (nI (D.length + k))) 8 x.1) 9 x.2) 9 = gI u 9 from rfl, h8, h9, show gR (sR (sR (sI u 6 (nI (D.length + k))) 8 x.1) 9 x.2) 8 = x.1 from rfl, show gR (sR (sR (sI u 6 (nI (D.length + k))) 8 x.1) 9 x.2) 9 = x.2 from rfl, e_setN (by decide) _ _ (by omega), bs, e_setN (by decide) _ _ (by omega), bs, i_s, i_s, s89]
      rfl)
    (fun x => by
      unfold mX0_lasts_s26
      dsimp only
      rw [if_pos (Int32.le_refl _)])
  have e0 : sR (sR (sI u 6 (nI (D.length + 0))) 8 (gR u 8)) 9 (gR u 9) = u := by
    rw [Nat.add_zero, ← h6, sI_self, sR_self, sR_self]
  have key : ∀ k, fd (fun k (x : (Nat → Int32) × (Nat → Int32)) => (upd x.1 (D.length + k) (nI it), upd x.2 (D.length + k) (nI ld))) k (gR u 8, gR u 9) = (fd (fun k x => upd x (D.length + k) (nI it)) k (gR u 8), fd (fun k x => upd x (D.length + k) (nI ld)) k (gR u 9)) := by
    intro k
    induction k with
    | zero => rfl
    | succ k ih => rw [fd_s, ih]; rfl
  rw [key] at e
  have e' : lpF (mX0_lasts_s26 (nI n)) (0, u) = some (sR (sR (sI u 6 (nI (D.length + n))) 8 (fd (fun k x => upd x (D.length + k) (nI it)) n (gR u 8))) 9 (fd (fun k x => upd x (D.length + k) (nI ld)) n (gR u 9))) := by
    have e2 := e
    dsimp only at e2
    rw [e0] at e2
    exact e2
  have e3 : mX0_lasts u (nI n) = some (1, sR (sR (sI u 6 (nI (D.length + n))) 8 (fd (fun k x => upd x (D.length + k) (nI it)) n (gR u 8))) 9 (fd (fun k x => upd x (D.length + k) (nI ld)) n (gR u 9))) := by
      unfold mX0_lasts
      rw [if_neg (show ¬ nI n < (1 : Int32) from nI_nlt (b := 1) hn.1 (by omega)), if_neg (show ¬ (60 : Int32) < nI n from nI_nlt (b := n) (a := 60) hn.2.1 (by decide)), h6, i_add, if_pos (show nI (D.length + n) ≤ 120 from nI_le (b := 120) hn.2.2 (by decide)), e', bs]
  refine ⟨_, e3, (((DF.rf u).I (k := 6) (by decide) _).R (k := 8) (by decide) _).R (k := 9) (by decide) _, rfl, rfl, ?_⟩
  · refine ⟨by rw [len_app]; rfl, by rw [len_app]; omega, fun m hm2 => ?_⟩
    rw [len_app] at hm2
    show fd (fun k x => upd x (D.length + k) (nI it)) n (gR u 8) m = _ ∧ fd (fun k x => upd x (D.length + k) (nI ld)) n (gR u 9) m = _
    rw [fd_up D.length (fun _ => nI it), fd_up D.length (fun _ => nI ld), dH_app, dL_app]
    by_cases h : m < D.length
    · have a1 : ¬ (D.length ≤ m ∧ m < D.length + n) := by omega
      rw [if_neg a1, if_neg a1, if_pos h, if_pos h]; exact hm m h
    · have a1 : D.length ≤ m ∧ m < D.length + n := by omega
      rw [if_pos a1, if_pos a1, if_neg h, if_neg h, if_pos hm2, if_pos hm2]; exact ⟨rfl, rfl⟩
theorem wrd_le {t : Nat → Int32} {s e w : Nat} (h : wrd t s e = some w) : w ≤ 3 := by
  unfold wrd at h
  repeat' split at h
  all_goals first | (cases h; decide) | cases h
theorem nmb_le {t : Nat → Int32} {L s n : Nat} (hs : s < L) (h : nmb t s (tkE t L s) = some n) : n ≤ 99 := by
  have h1 := tkE_gt (t := t) (L := L) s
  have h3 := @tkE_in t L s (s + 1) (by omega)
  generalize tkE t L s = e at h h1 h3
  unfold nmb at h
  split at h
  · next c =>
    have d1 := srt_2.mp c.1
    split at h
    · cases h; omega
    · next c4 =>
      have d2 := srt_2.mp ((h3 (by omega)).2.1.trans c.1)
      cases h; omega
  · cases h
theorem o32_n (n : Nat) : o32 (some n) = nI n := rfl
theorem nI_nm1 {n : Nat} (h : n < 2147483648) : ¬ nI n = -1 := by
  rw [m1_eq, z_nN h]; omega
theorem e_take {u : KS} {t : Nat → Int32} {L s : Nat} {x : TS} (hL : L ≤ 120) (ht : ∀ i, i < L → gR u 1 i = t i) (hC : CS u x) (hs : s < L) : ∃ r u', mX0_takesToken u (nI s) (nI (tkE t L s)) = some (r, u') ∧ DF u u' ∧ gI u' 5 = gI u 5 ∧ (match tst t s (tkE t L s) x with
    | none => r = 0 ∧ ∃ n, n ≤ 120 ∧ gI u' 6 = nI n
    | some x' => r = 1 ∧ CS u' x') := by
  have g1 := tkE_gt (t := t) (L := L) s
  have g2 := tkE_le (t := t) hs
  obtain ⟨aw, it, ld, D⟩ := x
  obtain ⟨h7, haw, hD, h8, h9⟩ := hC
  dsimp only at h7 haw hD h8 h9
  have hDl := hD.2.1
  unfold mX0_takesToken
  rcases (show aw = 0 ∨ aw = 1 ∨ aw = 2 ∨ aw = 3 by omega) with ha | ha | ha | ha <;> subst ha
  · rw [if_pos (show gI u 7 = 0 from h7), e_itemAt hL ht g1 g2, bs]
    rw [show tst t s (tkE t L s) (0, it, ld, D) = (wrd t s (tkE t L s)).map (fun w => (if w = 2 then 1 else 2, w, 0, D)) from rfl]
    cases hw : wrd t s (tkE t L s) with
    | none =>
      refine ⟨0, sI (sI (sI u 7 2) 8 (-1)) 9 0, by rw [show o32 none = -1 from rfl, if_neg (by decide), if_pos rfl], (((DF.rf u).I (k := 7) (by decide) _).I (k := 8) (by decide) _).I (k := 9) (by decide) _, rfl, rfl, D.length, hD.2.1, hD.1⟩
    | some w =>
      have hw3 := wrd_le hw
      rw [o32_n]
      by_cases c : w = 2
      · rw [if_pos (show nI w = 2 by rw [c]; rfl), if_neg (nI_nm1 (by omega))]
        refine ⟨1, _, rfl, (((DF.rf u).I (k := 7) (by decide) _).I (k := 8) (by decide) _).I (k := 9) (by decide) _, rfl, rfl, ?_⟩
        dsimp only
        rw [if_pos c]
        exact ⟨rfl, (show (1 : Nat) ≤ 3 by decide), hD, fun _ => rfl, fun _ => rfl⟩
      · rw [if_neg (show ¬ nI w = 2 from fun q => c ((nI_q2 hw3).mp q)), if_neg (nI_nm1 (by omega))]
        refine ⟨1, _, rfl, (((DF.rf u).I (k := 7) (by decide) _).I (k := 8) (by decide) _).I (k := 9) (by decide) _, rfl, rfl, ?_⟩
        dsimp only
        rw [if_neg c]
        exact ⟨rfl, (show (2 : Nat) ≤ 3 by decide), hD, fun _ => rfl, fun _ => rfl⟩
  · rw [h7, if_neg (by decide), if_pos (show nI 1 = (1 : Int32) from rfl), e_numberAt hL ht hs, bs]
    rw [show tst t s (tkE t L s) (1, it, ld, D) = (nmb t s (tkE t L s)).bind (fun n => if 1 ≤ n ∧ n ≤ 9 then some (2, it, n, D) else none) from rfl]
    cases hw : nmb t s (tkE t L s) with
    | none =>
      refine ⟨0, sI (sI u 7 2) 9 (-1), by rw [show o32 none = -1 from rfl, if_pos (by decide)], (((DF.rf u).I (k := 7) (by decide) _)).I (k := 9) (by decide) _, rfl, rfl, D.length, hD.2.1, hD.1⟩
    | some n =>
      have hn := nmb_le hs hw
      rw [o32_n, bs]
      by_cases c1 : 1 ≤ n
      · rw [if_neg (show ¬ nI n < (1 : Int32) from nI_nlt (b := 1) c1 (by omega))]
        by_cases c2 : n ≤ 9
        · rw [if_neg (show ¬ (9 : Int32) < nI n from nI_nlt (a := 9) c2 (by decide)), if_pos ⟨c1, c2⟩]
          exact ⟨1, _, rfl, (((DF.rf u).I (k := 7) (by decide) _)).I (k := 9) (by decide) _, rfl, rfl, rfl, (show (2 : Nat) ≤ 3 by decide), hD, fun _ => h8 (Or.inl rfl), fun _ => rfl⟩
        · rw [if_pos (show (9 : Int32) < nI n from nI_lt (a := 9) (by omega) (by omega)), if_neg (fun q => c2 q.2)]
          exact ⟨0, _, rfl, (((DF.rf u).I (k := 7) (by decide) _)).I (k := 9) (by decide) _, rfl, rfl, D.length, hD.2.1, hD.1⟩
      · rw [if_pos (show nI n < (1 : Int32) from nI_lt (b := 1) (by omega) (by decide)), if_neg (fun q => c1 q.1)]
        exact ⟨0, _, rfl, (((DF.rf u).I (k := 7) (by decide) _)).I (k := 9) (by decide) _, rfl, rfl, D.length, hD.2.1, hD.1⟩
  · rw [h7, if_neg (by decide), if_neg (by decide), if_pos (show nI 2 = (2 : Int32) from rfl), e_numberAt hL ht hs, bs]
    rw [show tst t s (tkE t L s) (2, it, ld, D) = (nmb t s (tkE t L s)).bind (fun n => if 1 ≤ n ∧ n ≤ 60 ∧ D.length + n ≤ 120 then some (3, it, ld, D ++ List.replicate n (it, ld)) else none) from rfl]
    have hD7 : Dar (sI u 7 3) D := hD
    have f7 : DF u (sI u 7 3) := (DF.rf u).I (k := 7) (by decide) _
    cases hw : nmb t s (tkE t L s) with
    | none =>
      rw [e_lastsF (a := o32 none) hD7.1 hD7.2.1 (by rw [show (o32 none).toInt = -1 from rfl]; omega), bs, gd_t (Or.inl rfl)]
      exact ⟨0, _, rfl, f7, rfl, rfl, D.length, hD.2.1, hD.1⟩
    | some n =>
      have hn := nmb_le hs hw
      rw [o32_n, bs]
      by_cases c : 1 ≤ n ∧ n ≤ 60 ∧ D.length + n ≤ 120
      · obtain ⟨u', q1, q2, q3, q4, q5⟩ := e_lastsT hD7 (h8 (Or.inr rfl)) (h9 rfl) c
        rw [if_pos c, q1, bs, gd_t (Or.inr rfl)]
        exact ⟨1, _, rfl, f7.tr q2, q3, rfl, q4, (show (3 : Nat) ≤ 3 by decide), q5, fun q => absurd q (show ¬ ((3 : Nat) = 1 ∨ (3 : Nat) = 2) by decide), fun q => absurd q (show ¬ (3 : Nat) = 2 by decide)⟩
      · rw [if_neg c, e_lastsF (a := nI n) hD7.1 hD7.2.1 (by rw [z_nN (by omega)]; omega), bs, gd_t (Or.inl rfl)]
        exact ⟨0, _, rfl, f7, rfl, rfl, D.length, hD.2.1, hD.1⟩
  · rw [h7, if_neg (by decide), if_neg (by decide), if_neg (by decide), e_atN (by decide) _ (by omega), bs, ht s hs]
    rw [show tst t s (tkE t L s) (3, it, ld, D) = (if (t s).toInt = 59 then some (0, it, ld, D) else none) from rfl]
    by_cases c : (t s).toInt = 59
    · rw [if_pos c, if_pos (show t s = 59 from z_is (n := 59) (by decide) c)]
      exact ⟨1, _, rfl, (DF.rf u).I (k := 7) (by decide) _, rfl, rfl, rfl, (show (0 : Nat) ≤ 3 by decide), hD, fun q => absurd q (show ¬ ((0 : Nat) = 1 ∨ (0 : Nat) = 2) by decide), fun q => absurd q (show ¬ (0 : Nat) = 2 by decide)⟩
    · rw [if_neg c, if_neg (fun q => c (by rw [q]; rfl))]
      exact ⟨0, _, rfl, (DF.rf u).I (k := 7) (by decide) _, rfl, rfl, D.length, hD.2.1, hD.1⟩
