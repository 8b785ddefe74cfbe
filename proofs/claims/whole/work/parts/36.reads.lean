/-! a token's kind in the model -/
def tkk (t : Nat → Int32) (s e : Nat) : Nat := if srt (t s).toInt = 1 then (match wrd t s e with
  | some w => w + 4
  | none => 1) else if srt (t s).toInt = 2 then (if e ≤ s + 2 then 2 else 1) else if (t s).toInt = 59 then 3 else 1
section RDS
variable {t : Nat → Int32} {L : Nat}
theorem wrd_sort {s e w : Nat} (h : wrd t s e = some w) : srt (t s).toInt = 1 := by
  have key : ∀ w, w < 4 → isW t s e w = true → srt (t s).toInt = 1 := by
    intro w hw hh
    obtain ⟨h1, h2⟩ := isW_iff.mp hh
    rw [srt_1]
    rcases (show w = 0 ∨ w = 1 ∨ w = 2 ∨ w = 3 by omega) with q | q | q | q <;> subst q
    · have := h2 0 (by decide)
      unfold wOk at this
      rw [Nat.add_zero] at this
      rw [this]; decide
    · have := h2 0 (by decide)
      unfold wOk at this
      rw [Nat.add_zero] at this
      rw [this]; decide
    · have := h2 0 (by decide)
      unfold wOk at this
      rw [Nat.add_zero] at this
      rw [this]; decide
    · have := h2 0 (by decide)
      unfold wOk at this
      rw [Nat.add_zero] at this
      rw [this]; decide
  unfold wrd at h
  repeat' split at h
  · next q => exact key 0 (by decide) q
  · next q => exact key 1 (by decide) q
  · next q => exact key 2 (by decide) q
  · next q => exact key 3 (by decide) q
  · cases h
/-- what a run of letters comes to, against the words -/
theorem hv_w {s k : Nat} (hk : k ≤ 5) (h : ∀ i, i < k → 97 ≤ (t (s + i)).toInt ∧ (t (s + i)).toInt ≤ 122) : (hv t s k = 20579780 ↔ isW t s (s + k) 0 = true) ∧ (hv t s k = 299397 ↔ isW t s (s + k) 1 = true) ∧ (hv t s k = 546188 ↔ isW t s (s + k) 2 = true) ∧ (hv t s k = 3638900 ↔ isW t s (s + k) 3 = true) := by
  have l0 : (wrdL.getD 0 []).length = 5 := rfl
  have l1 : (wrdL.getD 1 []).length = 4 := rfl
  have l2 : (wrdL.getD 2 []).length = 4 := rfl
  have l3 : (wrdL.getD 3 []).length = 5 := rfl
  rw [isW_iff, isW_iff, isW_iff, isW_iff, l0, l1, l2, l3]
  by_cases k5 : k = 5
  · subst k5
    have h0 := h 0 (by decide); have h1 := h 1 (by decide); have h2 := h 2 (by decide); have h3 := h 3 (by decide); have h4 := h 4 (by decide)
    simp only [hv]
    refine ⟨⟨fun q => ⟨trivial, fun i hi => ?_⟩, fun q => ?_⟩, ⟨fun q => ?_, fun q => ?_⟩, ⟨fun q => ?_, fun q => ?_⟩, ⟨fun q => ⟨trivial, fun i hi => ?_⟩, fun q => ?_⟩⟩
    · unfold wOk
      rcases (show i = 0 ∨ i = 1 ∨ i = 2 ∨ i = 3 ∨ i = 4 by omega) with r | r | r | r | r <;> subst r
      · show _ = (115 : Int); omega
      · show _ = (116 : Int); omega
      · show _ = (97 : Int); omega
      · show _ = (110 : Int); omega
      · show _ = (100 : Int); omega
    · have w0 : (t (s + 0)).toInt = 115 := q.2 0 (by decide)
      have w1 : (t (s + 1)).toInt = 116 := q.2 1 (by decide)
      have w2 : (t (s + 2)).toInt = 97 := q.2 2 (by decide)
      have w3 : (t (s + 3)).toInt = 110 := q.2 3 (by decide)
      have w4 : (t (s + 4)).toInt = 100 := q.2 4 (by decide)
      omega
    · omega
    · omega
    · omega
    · omega
    · unfold wOk
      rcases (show i = 0 ∨ i = 1 ∨ i = 2 ∨ i = 3 ∨ i = 4 by omega) with r | r | r | r | r <;> subst r
      · show _ = (99 : Int); omega
      · show _ = (111 : Int); omega
      · show _ = (97 : Int); omega
      · show _ = (115 : Int); omega
      · show _ = (116 : Int); omega
    · have w0 : (t (s + 0)).toInt = 99 := q.2 0 (by decide)
      have w1 : (t (s + 1)).toInt = 111 := q.2 1 (by decide)
      have w2 : (t (s + 2)).toInt = 97 := q.2 2 (by decide)
      have w3 : (t (s + 3)).toInt = 115 := q.2 3 (by decide)
      have w4 : (t (s + 4)).toInt = 116 := q.2 4 (by decide)
      omega
  · by_cases k4 : k = 4
    · subst k4
      have h0 := h 0 (by decide); have h1 := h 1 (by decide); have h2 := h 2 (by decide); have h3 := h 3 (by decide)
      simp only [hv]
      refine ⟨⟨fun q => ?_, fun q => ?_⟩, ⟨fun q => ⟨trivial, fun i hi => ?_⟩, fun q => ?_⟩, ⟨fun q => ⟨trivial, fun i hi => ?_⟩, fun q => ?_⟩, ⟨fun q => ?_, fun q => ?_⟩⟩
      · omega
      · omega
      · unfold wOk
        rcases (show i = 0 ∨ i = 1 ∨ i = 2 ∨ i = 3 by omega) with r | r | r | r <;> subst r
        · show _ = (105 : Int); omega
        · show _ = (100 : Int); omega
        · show _ = (108 : Int); omega
        · show _ = (101 : Int); omega
      · have w0 : (t (s + 0)).toInt = 105 := q.2 0 (by decide)
        have w1 : (t (s + 1)).toInt = 100 := q.2 1 (by decide)
        have w2 : (t (s + 2)).toInt = 108 := q.2 2 (by decide)
        have w3 : (t (s + 3)).toInt = 101 := q.2 3 (by decide)
        omega
      · unfold wOk
        rcases (show i = 0 ∨ i = 1 ∨ i = 2 ∨ i = 3 by omega) with r | r | r | r <;> subst r
        · show _ = (112 : Int); omega
        · show _ = (117 : Int); omega
        · show _ = (108 : Int); omega
        · show _ = (108 : Int); omega
      · have w0 : (t (s + 0)).toInt = 112 := q.2 0 (by decide)
        have w1 : (t (s + 1)).toInt = 117 := q.2 1 (by decide)
        have w2 : (t (s + 2)).toInt = 108 := q.2 2 (by decide)
        have w3 : (t (s + 3)).toInt = 108 := q.2 3 (by decide)
        omega
      · omega
      · omega
    · have hb : hv t s k < 32768 := by
        rcases (show k = 0 ∨ k = 1 ∨ k = 2 ∨ k = 3 by omega) with q | q | q | q <;> subst q
        · exact show (0 : Int) < 32768 by decide
        · have h0 := h 0 (by decide)
          simp only [hv]; omega
        · have h0 := h 0 (by decide); have h1 := h 1 (by decide)
          simp only [hv]; omega
        · have h0 := h 0 (by decide); have h1 := h 1 (by decide); have h2 := h 2 (by decide)
          simp only [hv]; omega
      refine ⟨⟨fun q => ?_, fun q => ?_⟩, ⟨fun q => ?_, fun q => ?_⟩, ⟨fun q => ?_, fun q => ?_⟩, ⟨fun q => ?_, fun q => ?_⟩⟩ <;> omega
theorem e_wordOf {s e : Nat} (hse : s ≤ e) (he : e ≤ s + 5) (h : ∀ i, s ≤ i → i < e → 97 ≤ (t i).toInt ∧ (t i).toInt ≤ 122) : mX6_wordOf (ha t s (e - s)) = some (nI (match wrd t s e with
    | some w => w + 4
    | none => 1)) := by
  have h' : ∀ i, i < e - s → 97 ≤ (t (s + i)).toInt ∧ (t (s + i)).toInt ≤ 122 := fun i hi => h (s + i) (by omega) (by omega)
  obtain ⟨w0, w1, w2, w3⟩ := hv_w (t := t) (s := s) (k := e - s) (by omega) h'
  have hb := hv_b (t := t) (s := s) (k := e - s) h' (by omega)
  rw [show s + (e - s) = e by omega] at w0 w1 w2 w3
  have hn : (ha t s (e - s)).toInt = hv t s (e - s) := by
    unfold ha
    rw [if_pos (by omega), zl_oi hb.1 (by omega)]
  have eq : ∀ (c : Int64) (n : Int), c.toInt = n → ((lg_cmp (ha t s (e - s)) c = 0) ↔ hv t s (e - s) = n) := fun c n hc => by
    rw [z_cmp0, ← Int64.toInt_inj, hn, hc]
  unfold mX6_wordOf wrd
  by_cases c0 : isW t s e 0 = true
  · rw [if_pos ((eq 20579780 20579780 rfl).mpr (w0.mpr c0)), if_pos c0]; rfl
  · rw [if_neg (fun q => c0 (w0.mp ((eq 20579780 20579780 rfl).mp q))), if_neg c0]
    by_cases c1 : isW t s e 1 = true
    · rw [if_pos ((eq 299397 299397 rfl).mpr (w1.mpr c1)), if_pos c1]; rfl
    · rw [if_neg (fun q => c1 (w1.mp ((eq 299397 299397 rfl).mp q))), if_neg c1]
      by_cases c2 : isW t s e 2 = true
      · rw [if_pos ((eq 546188 546188 rfl).mpr (w2.mpr c2)), if_pos c2]; rfl
      · rw [if_neg (fun q => c2 (w2.mp ((eq 546188 546188 rfl).mp q))), if_neg c2]
        by_cases c3 : isW t s e 3 = true
        · rw [if_pos ((eq 3638900 3638900 rfl).mpr (w3.mpr c3)), if_pos c3]; rfl
        · rw [if_neg (fun q => c3 (w3.mp ((eq 3638900 3638900 rfl).mp q))), if_neg c3]; rfl
/-- what a scan from p leaves -/
def Sn (t : Nat → Int32) (L p : Nat) (v : KS) : Prop := (¬ skp t L L p < L → gI v 3 = 0 ∧ gI v 2 = nI L) ∧ (skp t L L p < L → gI v 1 = nI (tkE t L (skp t L L p)) ∧ gI v 2 = nI (skp t L L p) ∧ gI v 3 = nI (tkk t (skp t L L p) (tkE t L (skp t L L p))) ∧ ∀ n, nmb t (skp t L L p) (tkE t L (skp t L L p)) = some n → gI v 4 = nI n)
theorem e_scans {v : KS} {p : Nat} (hL : L ≤ 120) (hB : Bk v t L) (h1 : gI v 1 = nI p) (hp : p ≤ L) : ∃ v', mX6_scans v = some v' ∧ SC v v' ∧ Sn t L p v' := by
  have hsk : lpF mX6_scans_s0 v = some (sI v 1 (nI (skp t L L p))) := by
    have h := e_skip6 hL hB L p hp (by omega)
    rw [← h1, sI_self] at h
    exact h
  obtain ⟨s, hs⟩ : ∃ s, skp t L L p = s := ⟨_, rfl⟩
  have g2 := skp_le (t := t) (L := L) L p hp
  have g4 := skp_end (t := t) (L := L) L p (by omega)
  unfold Sn
  rw [hs] at g2 g4 hsk
  rw [hs]
  obtain ⟨w, hw⟩ : ∃ w : KS, w = sI (sI v 1 (nI s)) 2 (nI s) := ⟨_, rfl⟩
  have w1 : gI w 1 = nI s := by rw [hw]; rfl
  have w2 : gI w 2 = nI s := by rw [hw]; rfl
  have wS : SC v w := by rw [hw]; exact ((SC.rf v).I (k := 1) (by decide) _).I (k := 2) (by decide) _
  have wB : Bk w t L := hB.mf wS.MF
  unfold mX6_scans
  rw [hsk, bs, show gI (sI v 1 (nI s)) 1 = nI s from rfl, show gR (sI v 1 (nI s)) 0 = gR v 0 from rfl, c_0, hB.1, ← hw]
  have eL : (nI s = nI L) ↔ s = L := nI_eq (by omega) (by omega)
  by_cases hsL : s < L
  · rw [if_neg (fun q => by have := eL.mp q; omega)]
    have hne : srt (t s).toInt ≠ 0 := fun q => g4 hsL (srt_0.mp q)
    have k1 := tkE_gt (t := t) (L := L) s
    have k2 := tkE_le (t := t) hsL
    have k3 := @tkE_in t L s
    have iA : mX6_isAt w 97 122 = some (if srt (t s).toInt = 1 then 1 else 0) := by
      rw [e_isAt hL wB w1 g2]
      have : (s < L ∧ (97 : Int32).toInt ≤ (t s).toInt ∧ (t s).toInt ≤ (122 : Int32).toInt) ↔ srt (t s).toInt = 1 := by
        rw [srt_1, show (97 : Int32).toInt = 97 from rfl, show (122 : Int32).toInt = 122 from rfl]; exact ⟨fun q => q.2, fun q => ⟨hsL, q⟩⟩
      by_cases c : srt (t s).toInt = 1
      · rw [if_pos (this.mpr c), if_pos c]
      · rw [if_neg (fun q => c (this.mp q)), if_neg c]
    have iN : mX6_isAt w 48 57 = some (if srt (t s).toInt = 2 then 1 else 0) := by
      rw [e_isAt hL wB w1 g2]
      have : (s < L ∧ (48 : Int32).toInt ≤ (t s).toInt ∧ (t s).toInt ≤ (57 : Int32).toInt) ↔ srt (t s).toInt = 2 := by
        rw [srt_2, show (48 : Int32).toInt = 48 from rfl, show (57 : Int32).toInt = 57 from rfl]; exact ⟨fun q => q.2, fun q => ⟨hsL, q⟩⟩
      by_cases c : srt (t s).toInt = 2
      · rw [if_pos (this.mpr c), if_pos c]
      · rw [if_neg (fun q => c (this.mp q)), if_neg c]
    have iS : mX6_isAt w 59 59 = some (if (t s).toInt = 59 then 1 else 0) := by
      rw [e_isAt hL wB w1 g2]
      have : (s < L ∧ (59 : Int32).toInt ≤ (t s).toInt ∧ (t s).toInt ≤ (59 : Int32).toInt) ↔ (t s).toInt = 59 := by
        rw [show (59 : Int32).toInt = 59 from rfl]; omega
      by_cases c : (t s).toInt = 59
      · rw [if_pos (this.mpr c), if_pos c]
      · rw [if_neg (fun q => c (this.mp q)), if_neg c]
    rw [iA, bs, b_i2]
    by_cases c1 : srt (t s).toInt = 1
    · rw [if_pos c1]
      have hE : tkE t L s = run t L 1 L s := by
        have hr1 : run t L 1 L (s + 1) = run t L 1 L s := by
          have a1 := run_ge (t := t) (L := L) 1 L (s + 1)
          have a2 := run_le (t := t) (L := L) 1 L (s + 1) hsL
          have a3 := fun i => run_in (t := t) (L := L) 1 L (s + 1) i
          have a4 := run_end (t := t) (L := L) 1 L (s + 1) (by omega)
          have b1 := run_ge (t := t) (L := L) 1 L s
          have b2 := run_le (t := t) (L := L) 1 L s g2
          have b3 := fun i => run_in (t := t) (L := L) 1 L s i
          have b4 := run_end (t := t) (L := L) 1 L s (by omega)
          rcases Nat.lt_trichotomy (run t L 1 L (s + 1)) (run t L 1 L s) with q | q | q
          · exact absurd (b3 _ (by omega) q).2 (a4 (by omega))
          · exact q
          · by_cases hq : run t L 1 L s = s
            · rw [hq] at b4; exact absurd c1 (b4 hsL)
            · exact absurd (a3 _ (by omega) q).2 (b4 (by omega))
        unfold tkE
        rw [if_neg (by rw [c1]; decide), c1, hr1]
      obtain ⟨a, q1, q2⟩ := e_let6 (v := w) hL wB w2 L s (Nat.le_refl _) g2 (by omega) (fun i h1 h2 => absurd h2 (by omega))
      have q1' : lpF mX6_scans_s64 (0, w) = some (a, sI w 1 (nI (tkE t L s))) := by
        have e0 : sI w 1 (nI s) = w := by rw [← w1, sI_self]
        rw [Nat.sub_self, e0, ← hE] at q1
        exact q1
      rw [← hE] at q2
      rw [q1', bs]
      dsimp only
      rw [show gI (sI w 1 (nI (tkE t L s))) 1 = nI (tkE t L s) from rfl, show gI (sI w 1 (nI (tkE t L s))) 2 = gI w 2 from rfl, w2, i_sub (by omega) (by omega)]
      have hin : ∀ i, s ≤ i → i < tkE t L s → 97 ≤ (t i).toInt ∧ (t i).toInt ≤ 122 := by
        intro i r1 r2
        by_cases r3 : i = s
        · subst r3; exact srt_1.mp c1
        · exact srt_1.mp ((k3 (i := i) (by omega) r2).2.1.trans c1)
      have hnn : nmb t s (tkE t L s) = none := by
        unfold nmb
        rw [if_neg (by rw [c1]; omega)]
      by_cases c5 : tkE t L s - s ≤ 5
      · rw [if_pos (show nI (tkE t L s - s) ≤ 5 from nI_le (b := 5) c5 (by decide)), q2, e_wordOf (by omega) (by omega) hin, bs]
        refine ⟨_, rfl, (wS.I (k := 1) (by decide) _).I (k := 3) (by decide) _, fun q => absurd hsL q, fun _ => ⟨rfl, w2, ?_, fun n hn => ?_⟩⟩
        · unfold tkk
          rw [if_pos c1]
          rfl
        · rw [hnn] at hn; cases hn
      · rw [if_neg (show ¬ nI (tkE t L s - s) ≤ 5 from nI_ge (a := 5) (by omega) (by omega))]
        refine ⟨_, rfl, (wS.I (k := 1) (by decide) _).I (k := 3) (by decide) _, fun q => absurd hsL q, fun _ => ⟨rfl, w2, ?_, fun n hn => ?_⟩⟩
        · have hwn : wrd t s (tkE t L s) = none := by
            unfold wrd
            have l5 : ∀ w, w < 4 → ¬ isW t s (tkE t L s) w = true := fun w hw q => by
              have := (isW_iff.mp q).1
              have := w_5 w hw
              omega
            rw [if_neg (l5 0 (by decide)), if_neg (l5 1 (by decide)), if_neg (l5 2 (by decide)), if_neg (l5 3 (by decide))]
          unfold tkk
          rw [if_pos c1, hwn]
          rfl
        · rw [hnn] at hn; cases hn
    · rw [if_neg c1, iN, bs, b_i2]
      by_cases c2 : srt (t s).toInt = 2
      · rw [if_pos c2]
        have hE : tkE t L s = run t L 2 L s := by
          have hr1 : run t L 2 L (s + 1) = run t L 2 L s := by
            have a1 := run_ge (t := t) (L := L) 2 L (s + 1)
            have a2 := run_le (t := t) (L := L) 2 L (s + 1) hsL
            have a3 := fun i => run_in (t := t) (L := L) 2 L (s + 1) i
            have a4 := run_end (t := t) (L := L) 2 L (s + 1) (by omega)
            have b1 := run_ge (t := t) (L := L) 2 L s
            have b2 := run_le (t := t) (L := L) 2 L s g2
            have b3 := fun i => run_in (t := t) (L := L) 2 L s i
            have b4 := run_end (t := t) (L := L) 2 L s (by omega)
            rcases Nat.lt_trichotomy (run t L 2 L (s + 1)) (run t L 2 L s) with q | q | q
            · exact absurd (b3 _ (by omega) q).2 (a4 (by omega))
            · exact q
            · by_cases hq : run t L 2 L s = s
              · rw [hq] at b4; exact absurd c2 (b4 hsL)
              · exact absurd (a3 _ (by omega) q).2 (b4 (by omega))
          unfold tkE
          rw [if_neg (by rw [c2]; decide), c2, hr1]
        have q1 := e_num6 (v := w) hL wB w2 L s (Nat.le_refl _) g2 (by omega) (fun i h1 h2 => absurd h2 (by omega))
        have q1' : lpF mX6_scans_s173 (sI w 4 0) = some (sI (sI w 1 (nI (tkE t L s))) 4 (nv t s (tkE t L s - s))) := by
          have e0 : sI w 1 (nI s) = w := by rw [← w1, sI_self]
          rw [Nat.sub_self, e0, ← hE] at q1
          exact q1
        rw [q1', bs]
        rw [show gI (sI (sI w 1 (nI (tkE t L s))) 4 (nv t s (tkE t L s - s))) 1 = nI (tkE t L s) from rfl, show gI (sI (sI w 1 (nI (tkE t L s))) 4 (nv t s (tkE t L s - s))) 2 = gI w 2 from rfl, w2, i_sub (by omega) (by omega)]
        have hval : ∀ n, nmb t s (tkE t L s) = some n → nv t s (tkE t L s - s) = nI n := by
          intro n hn
          unfold nmb at hn
          split at hn
          · next c =>
            unfold nv
            rw [if_neg (by omega)]
            by_cases c4 : tkE t L s = s + 1
            · rw [if_pos c4] at hn
              rw [if_pos (by omega)]
              cases hn; rfl
            · rw [if_neg c4] at hn
              rw [if_neg (by omega)]
              cases hn; rfl
          · cases hn
        by_cases c5 : tkE t L s - s ≤ 2
        · rw [if_pos (show nI (tkE t L s - s) ≤ 2 from nI_le (b := 2) c5 (by decide))]
          refine ⟨_, rfl, ((wS.I (k := 1) (by decide) _).I (k := 4) (by decide) _).I (k := 3) (by decide) _, fun q => absurd hsL q, fun _ => ⟨rfl, w2, ?_, fun n hn => hval n hn⟩⟩
          unfold tkk
          rw [if_neg c1, if_pos c2, if_pos (by omega)]
          rfl
        · rw [if_neg (show ¬ nI (tkE t L s - s) ≤ 2 from nI_ge (a := 2) (by omega) (by omega))]
          refine ⟨_, rfl, ((wS.I (k := 1) (by decide) _).I (k := 4) (by decide) _).I (k := 3) (by decide) _, fun q => absurd hsL q, fun _ => ⟨rfl, w2, ?_, fun n hn => hval n hn⟩⟩
          unfold tkk
          rw [if_neg c1, if_pos c2, if_neg (by omega)]
          rfl
      · have c3 : srt (t s).toInt = 3 := by have := srt_le (t s).toInt; omega
        have hE : tkE t L s = s + 1 := by unfold tkE; rw [if_pos c3]
        have hnn : nmb t s (tkE t L s) = none := by
          unfold nmb
          rw [if_neg (by rw [c3]; omega)]
        rw [if_neg c2, iS, bs, b_i2, i_s]
        by_cases c9 : (t s).toInt = 59
        · rw [if_pos c9]
          refine ⟨_, rfl, (((SC.rf v).I (k := 1) (by decide) _).I (k := 1) (by decide) _ |>.I (k := 2) (by decide) _).I (k := 3) (by decide) _, fun q => absurd hsL q, fun _ => ⟨by rw [hE]; rfl, rfl, ?_, fun n hn => ?_⟩⟩
          · unfold tkk
            rw [if_neg c1, if_neg c2, if_pos c9]
            rfl
          · rw [hnn] at hn; cases hn
        · rw [if_neg c9]
          refine ⟨_, rfl, (((SC.rf v).I (k := 1) (by decide) _).I (k := 1) (by decide) _ |>.I (k := 2) (by decide) _).I (k := 3) (by decide) _, fun q => absurd hsL q, fun _ => ⟨by rw [hE]; rfl, rfl, ?_, fun n hn => ?_⟩⟩
          · unfold tkk
            rw [if_neg c1, if_neg c2, if_neg c9]
            rfl
          · rw [hnn] at hn; cases hn
  · have hs2 : s = L := by omega
    rw [if_pos (eL.mpr hs2)]
    exact ⟨_, rfl, wS.I (k := 3) (by decide) _, fun _ => ⟨rfl, by rw [← hs2]; exact w2⟩, fun q => absurd q hsL⟩
end RDS
