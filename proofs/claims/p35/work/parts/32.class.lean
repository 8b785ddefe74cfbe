/-! the day's minutes are well told -/
def XS (x : TS) : Prop := WD x.2.2.2 ∧ (x.1 = 1 → x.2.1 = 2) ∧ (x.1 = 2 → x.2.1 ≤ 3 ∧ (x.2.1 = 2 → 1 ≤ x.2.2.1 ∧ x.2.2.1 ≤ 9) ∧ (x.2.1 ≠ 2 → x.2.2.1 = 0))
theorem XS_tst {t : Nat → Int32} {s e : Nat} {x x' : TS} (h : XS x) (hx : tst t s e x = some x') : XS x' := by
  obtain ⟨aw, it, ld, D⟩ := x
  obtain ⟨h1, h2, h3⟩ := h
  dsimp only at h1 h2 h3
  match aw, hx with
  | 0, hx =>
    have hx : (wrd t s e).map (fun w => (if w = 2 then 1 else 2, w, 0, D)) = some x' := hx
    cases hw : wrd t s e with
    | none => rw [hw] at hx; cases hx
    | some w =>
      rw [hw] at hx
      have hw3 := wrd_le hw
      have hx : (if w = 2 then 1 else 2, w, 0, D) = x' := Option.some.inj hx
      subst hx
      refine ⟨h1, fun q => ?_, fun q => ?_⟩
      · dsimp only at q ⊢
        by_cases c : w = 2
        · exact c
        · rw [if_neg c] at q; cases q
      · dsimp only at q ⊢
        by_cases c : w = 2
        · rw [if_pos c] at q; cases q
        · exact ⟨hw3, fun r => absurd r c, fun _ => rfl⟩
  | 1, hx =>
    have hx : (nmb t s e).bind (fun n => if 1 ≤ n ∧ n ≤ 9 then some (2, it, n, D) else none) = some x' := hx
    obtain ⟨n, hn, hx⟩ := o_bs hx
    split at hx
    · next c =>
      cases hx
      refine ⟨h1, fun q => (by cases q), fun _ => ?_⟩
      have e2 := h2 rfl
      dsimp only
      rw [e2]
      exact ⟨by decide, fun _ => c, fun q => absurd rfl q⟩
    · cases hx
  | 2, hx =>
    have hx : (nmb t s e).bind (fun n => if 1 ≤ n ∧ n ≤ 60 ∧ D.length + n ≤ 120 then some (3, it, ld, D ++ List.replicate n (it, ld)) else none) = some x' := hx
    obtain ⟨n, hn, hx⟩ := o_bs hx
    split at hx
    · next c =>
      cases hx
      obtain ⟨a1, a2, a3⟩ := h3 rfl
      refine ⟨⟨by dsimp only; rw [len_app]; omega, fun m => ?_⟩, fun q => (by cases q), fun q => (by cases q)⟩
      dsimp only
      rw [dH_app, dL_app]
      have hm := h1.2 m
      by_cases c1 : m < D.length
      · rw [if_pos c1, if_pos c1]; exact hm
      · rw [if_neg c1, if_neg c1]
        by_cases c2 : m < D.length + n
        · rw [if_pos c2, if_pos c2]; exact ⟨a1, a2, a3⟩
        · rw [if_neg c2, if_neg c2]; exact ⟨by decide, fun q => (by cases q), fun _ => rfl⟩
    · cases hx
  | k + 3, hx =>
    have hx : (if (t s).toInt = 59 then some (0, it, ld, D) else none) = some x' := hx
    split at hx
    · cases hx
      exact ⟨h1, fun q => (by cases q), fun q => (by cases q)⟩
    · cases hx
theorem prs_XS {t : Nat → Int32} {L : Nat} : ∀ (f p : Nat) (x : TS) (D : List (Nat × Nat)), XS x → prs t L f p x = .inr D → WD D := by
  intro f
  induction f with
  | zero => intro p x D _ h; cases h
  | succ f ih =>
    intro p x D hx h
    rw [prs.eq_2] at h
    split at h
    · cases ht : tst t (skp t L L p) (tkE t L (skp t L L p)) x with
      | none => rw [ht] at h; cases h
      | some x' => rw [ht] at h; exact ih _ x' D (XS_tst hx ht) h
    · split at h
      · cases h; exact hx.1
      · cases h
theorem XS_0 : XS (0, 0, 0, []) := ⟨⟨by decide, fun m => ⟨Nat.zero_le _, fun q => (by cases q), fun _ => rfl⟩⟩, fun q => (by cases q), fun q => (by cases q)⟩
theorem day_WD {t : Nat → Int32} {L : Nat} {D : List (Nat × Nat)} (h : day t L = .inr D) : WD D := prs_XS _ _ _ D XS_0 h
/-! the class's loop over the text -/
def Bd (t : Nat → Int32) (L p : Nat) : Prop := p < L → srt (t p).toInt ≠ 0 → (srt (t p).toInt = 3 ∨ p = 0 ∨ srt (t (p - 1)).toInt ≠ srt (t p).toInt)
theorem cl_skip {L : Nat} {u : KS} (h5 : gI u 5 = -1) (hL : L ≤ 120) : ∀ m p, (∀ i, p ≤ i → i < p + m → i < L ∧ mX0_beginsToken 120 (gR u 1) (nI i) = some 0) → lpF (mX0_read_s17 (nI L)) (nI p, u) = lpF (mX0_read_s17 (nI L)) (nI (p + m), u) := by
  intro m
  induction m with
  | zero => intro p _; rfl
  | succ m ih =>
    intro p h
    obtain ⟨h1, h2⟩ := h p (Nat.le_refl _) (by omega)
    have hs : mX0_read_s17 (nI L) (nI p, u) = some (.inr (nI (p + 1), u)) := by
      unfold mX0_read_s17
      dsimp only
      rw [if_neg (nI_ge h1 (by omega)), if_pos h5, h2, bs, if_pos rfl, i_s]
    rw [lp_go hs, ih (p + 1) (fun i q1 q2 => h i (by omega) (by omega)), show p + 1 + m = p + (m + 1) by omega]
def RO (L : Nat) (r : Nat ⊕ List (Nat × Nat)) (u : KS) : Prop := match r with
  | .inl s => (∃ n, n ≤ 120 ∧ gI u 6 = nI n) ∧ ((gI u 5 = nI s ∧ s < L) ∨ (s = L ∧ gI u 5 = -1 ∧ ¬ gI u 7 = 0))
  | .inr D => gI u 5 = -1 ∧ gI u 7 = 0 ∧ Dar u D
theorem e_readL {t : Nat → Int32} {L : Nat} (hL : L ≤ 120) : ∀ (N p : Nat) (u : KS) (x : TS), L - p < N → p ≤ L → (∀ i, i < L → gR u 1 i = t i) → CS u x → gI u 5 = -1 → Bd t L p → ∃ u', lpF (mX0_read_s17 (nI L)) (nI p, u) = some u' ∧ DF u u' ∧ RO L (PR t L p x) u' := by
  intro N
  induction N with
  | zero => intro p u x h; exact absurd h (Nat.not_lt_zero _)
  | succ N ih =>
    intro p u x hN hp ht hC h5 hB
    obtain ⟨s, hs⟩ : ∃ s, skp t L L p = s := ⟨_, rfl⟩
    have g1 := skp_ge (t := t) (L := L) L p
    have g2 := skp_le (t := t) (L := L) L p hp
    have g3 := fun i => skp_in (t := t) (L := L) L p i
    have g4 := skp_end (t := t) (L := L) L p (by omega)
    rw [hs] at g1 g2 g3 g4
    have e0 : lpF (mX0_read_s17 (nI L)) (nI p, u) = lpF (mX0_read_s17 (nI L)) (nI s, u) := by
      have hk : ∀ i, p ≤ i → i < p + (s - p) → i < L ∧ mX0_beginsToken 120 (gR u 1) (nI i) = some 0 := by
        intro i q1 q2
        obtain ⟨a, b⟩ := g3 i q1 (by omega)
        refine ⟨a, ?_⟩
        rw [e_begins hL ht a, if_pos (srt_0.mpr b)]
      rw [cl_skip h5 hL (s - p) p hk, show p + (s - p) = s by omega]
    rw [e0]
    by_cases hsL : s < L
    · have hne : srt (t s).toInt ≠ 0 := fun q => g4 hsL (srt_0.mp q)
      have hb : mX0_beginsToken 120 (gR u 1) (nI s) = some 1 := by
        rw [e_begins hL ht hsL, if_neg hne]
        refine congrArg some (if_pos ?_)
        by_cases c : s = p
        · subst c; exact hB hsL hne
        · right; right
          obtain ⟨a, b⟩ := g3 (s - 1) (by omega) (by omega)
          rw [srt_0.mpr b]
          exact fun q => hne q.symm
      obtain ⟨r, u', q1, q2, q3, q4⟩ := e_take hL ht hC hsL
      have k1 := tkE_gt (t := t) (L := L) s
      have k2 := tkE_le (t := t) hsL
      have k3 := @tkE_in t L s
      have k4 := @tkE_end t L s
      cases hx : tst t s (tkE t L s) x with
      | none =>
        rw [hx] at q4
        obtain ⟨hr, n, hn, h6⟩ := q4
        have st : mX0_read_s17 (nI L) (nI s, u) = some (.inr (nI (s + 1), sI u' 5 (nI s))) := by
          unfold mX0_read_s17
          dsimp only
          rw [if_neg (nI_ge hsL (by omega)), if_pos h5, hb, bs, if_neg (by decide), e_tokEnd hL ht hsL, bs, q1, bs, if_pos hr, i_s]
        have st2 : mX0_read_s17 (nI L) (nI (s + 1), sI u' 5 (nI s)) = some (.inl (sI u' 5 (nI s))) := by
          unfold mX0_read_s17
          dsimp only
          by_cases c : nI L ≤ nI (s + 1)
          · rw [if_pos c]
          · rw [if_neg c, if_neg (show ¬ gI (sI u' 5 (nI s)) 5 = -1 from nI_nm1 (by omega))]
        refine ⟨_, by rw [lp_go st, lp_stop st2], q2.I (by decide) _, ?_⟩
        rw [PR_bad hs hsL hx]
        exact ⟨⟨n, hn, h6⟩, Or.inl ⟨rfl, hsL⟩⟩
      | some x' =>
        rw [hx] at q4
        obtain ⟨hr, hC'⟩ := q4
        have st : mX0_read_s17 (nI L) (nI s, u) = some (.inr (nI (s + 1), u')) := by
          unfold mX0_read_s17
          dsimp only
          rw [if_neg (nI_ge hsL (by omega)), if_pos h5, hb, bs, if_neg (by decide), e_tokEnd hL ht hsL, bs, q1, bs, if_neg (show ¬ r = 0 by rw [hr]; decide), i_s]
        have ht' : ∀ i, i < L → gR u' 1 i = t i := fun i hi => by rw [q2.2.1 1 (by decide)]; exact ht i hi
        have h5' : gI u' 5 = -1 := q3.trans h5
        have e1 : lpF (mX0_read_s17 (nI L)) (nI (s + 1), u') = lpF (mX0_read_s17 (nI L)) (nI (tkE t L s), u') := by
          have hk : ∀ i, s + 1 ≤ i → i < s + 1 + (tkE t L s - (s + 1)) → i < L ∧ mX0_beginsToken 120 (gR u' 1) (nI i) = some 0 := by
            intro i r1 r2
            obtain ⟨a, b, c⟩ := k3 (i := i) (by omega) (by omega)
            have b2 : srt (t (i - 1)).toInt = srt (t s).toInt := by
              by_cases c2 : i - 1 = s
              · rw [c2]
              · exact (k3 (i := i - 1) (by omega) (by omega)).2.1
            refine ⟨a, ?_⟩
            have hno : ¬ (srt (t s).toInt = 3 ∨ i = 0 ∨ srt (t (i - 1)).toInt ≠ srt (t s).toInt) := by
              rintro (q | q | q)
              · exact c q
              · omega
              · exact q b2
            rw [e_begins hL ht' a, b, if_neg hne, if_neg hno]
          rw [cl_skip h5' hL (tkE t L s - (s + 1)) (s + 1) hk, show s + 1 + (tkE t L s - (s + 1)) = tkE t L s by omega]
        have hB' : Bd t L (tkE t L s) := by
          intro r1 r2
          have b2 : srt (t (tkE t L s - 1)).toInt = srt (t s).toInt := by
            by_cases c2 : tkE t L s - 1 = s
            · rw [c2]
            · exact (k3 (i := tkE t L s - 1) (by omega) (by omega)).2.1
          rw [b2]
          rcases k4 r1 with q | q
          · by_cases c : srt (t (tkE t L s)).toInt = 3
            · exact Or.inl c
            · right; right; rw [q]; exact fun z => c z.symm
          · right; right; exact fun z => q z.symm
        obtain ⟨u2, w1, w2, w3⟩ := ih (tkE t L s) u' x' (by omega) k2 ht' hC' h5' hB'
        refine ⟨u2, by rw [lp_go st, e1, w1], q2.tr w2, ?_⟩
        rw [PR_go hp hs hsL hx]
        exact w3
    · have st : mX0_read_s17 (nI L) (nI s, u) = some (.inl u) := by
        unfold mX0_read_s17
        dsimp only
        rw [if_pos (nI_le (by omega) (by omega))]
      refine ⟨u, lp_stop st, DF.rf u, ?_⟩
      rw [PR_end (by rw [hs]; exact hsL)]
      by_cases c : x.1 = 0
      · rw [if_pos c]
        exact ⟨h5, by rw [hC.1, c]; rfl, hC.2.2.1⟩
      · rw [if_neg c]
        have h3 := hC.2.1
        exact ⟨⟨_, hC.2.2.1.2.1, hC.2.2.1.1⟩, Or.inr ⟨rfl, h5, by rw [hC.1]; exact fun q => c ((nI_q0 h3).mp q)⟩⟩
