/-! the model's stems -/
def stG (c1 hw ld h : Int32) : Int32 := if ld ≤ 0 then (if hw = 5 then (if 1 ≤ h then 1 else h) else (if 0 ≤ h then 0 else h)) else (if 4 * c1 ≤ h then 4 * c1 else h)
def stA (c1 hw ld h : Int32) : Int32 := h + (if hw = 4 then c1 else if hw = 7 then 3 * c1 else -(stG c1 hw ld h))
def stH (c1 hw ld h : Int32) : Int32 := if stA c1 hw ld h ≤ 30 then stA c1 hw ld h else 30
def moN (d k : Nat) : Nat := if k = 0 then d else if k = 3 then 3 * d else 0
def msN (d k : Nat) : Nat := if k = 2 then 4 * d else if k = 1 then 1 else 0
theorem stN0 : ∀ d, d < 4 → ∀ k, k < 4 → k ≠ 2 → ∀ h, h < 31 → stG (nI d) (nI (k + 4)) (nI 0) (nI h) = nI (min (min (h + moN d k) 30) (msN d k)) ∧ stH (nI d) (nI (k + 4)) (nI 0) (nI h) = nI (min (h + moN d k) 30 - min (min (h + moN d k) 30) (msN d k)) := by decide +kernel
theorem stN2 : ∀ d, d < 4 → ∀ l, l < 10 → 1 ≤ l → ∀ h, h < 31 → stG (nI d) (nI (2 + 4)) (nI l) (nI h) = nI (min (min (h + moN d 2) 30) (msN d 2)) ∧ stH (nI d) (nI (2 + 4)) (nI l) (nI h) = nI (min (h + moN d 2) 30 - min (min (h + moN d 2) 30) (msN d 2)) := by decide +kernel
theorem stN {D : List (Nat × Nat)} {d m : Nat} (hD : WD D) (hd : d < 4) : stG (nI d) (nI (dH D m + 4)) (nI (dL D m)) (nI (oh D d m)) = nI (ob D d m) ∧ stH (nI d) (nI (dH D m + 4)) (nI (dL D m)) (nI (oh D d m)) = nI (oh D d (m + 1)) := by
  have h := hD.2 m
  have ho := oh_le D d m
  have e1 : ob D d m = min (min (oh D d m + moN d (dH D m)) 30) (msN d (dH D m)) := rfl
  have e2 : oh D d (m + 1) = min (oh D d m + moN d (dH D m)) 30 - min (min (oh D d m + moN d (dH D m)) 30) (msN d (dH D m)) := rfl
  rw [e1, e2]
  by_cases c : dH D m = 2
  · have h2 := h.2.1 c
    rw [c]
    exact stN2 d hd _ (by omega) h2.1 _ (by omega)
  · rw [h.2.2 c]
    exact stN0 d hd _ (by omega) c _ (by omega)
theorem st_step {v : KS} {n m o : Nat} {c1 c2 h : Int32} (h5 : gI v 5 = nI n) (hn : n ≤ 120) (hm : m < n) (ho : 480 * c2 + 4 * nI m = nI o) (ho2 : o < 10080) : mX6_stems_s11 c1 c2 (h, nI m, v) = some (.inr (stH c1 (gR v 6 m) (gR v 7 m) h, nI (m + 1), sR v 9 (upd (gR v 9) o (stG c1 (gR v 6 m) (gR v 7 m) h)))) := by
  have im : inb (nI m) 120 := i_k (by omega) (by decide)
  have io : inb (nI o) 10080 := i_k ho2 (by decide)
  have clm : (nI m).toNatClampNeg = m := i_cl (by omega)
  have clo : (nI o).toNatClampNeg = o := i_cl (by omega)
  unfold mX6_stems_s11 stH stA stG
  dsimp only
  rw [h5, if_neg (nI_ge hm (by omega)), ho]
  simp only [gd_t im, gd_t io]
  rw [clm, clo]
  obtain ⟨hw, hhw⟩ : ∃ x, gR v 6 m = x := ⟨_, rfl⟩
  obtain ⟨ld, hld⟩ : ∃ x, gR v 7 m = x := ⟨_, rfl⟩
  rw [hhw, hld, i_s]
  by_cases hA : ld ≤ 0
  · simp only [if_pos hA]
    by_cases hB : hw = 5
    · simp only [if_pos hB]
      by_cases hG : 1 ≤ h
      · simp only [if_pos hG]
        by_cases hE : hw = 4
        · simp only [if_pos hE]
          (split <;> rename_i hZ <;> first | rfl | (rw [if_pos hZ]) | (rw [if_neg hZ]))
        · simp only [if_neg hE]
          by_cases hF : hw = 7
          · simp only [if_pos hF]
            (split <;> rename_i hZ <;> first | rfl | (rw [if_pos hZ]) | (rw [if_neg hZ]))
          · simp only [if_neg hF]
            (split <;> rename_i hZ <;> first | rfl | (rw [if_pos hZ]) | (rw [if_neg hZ]))
      · simp only [if_neg hG]
        by_cases hE : hw = 4
        · simp only [if_pos hE]
          (split <;> rename_i hZ <;> first | rfl | (rw [if_pos hZ]) | (rw [if_neg hZ]))
        · simp only [if_neg hE]
          by_cases hF : hw = 7
          · simp only [if_pos hF]
            (split <;> rename_i hZ <;> first | rfl | (rw [if_pos hZ]) | (rw [if_neg hZ]))
          · simp only [if_neg hF]
            (split <;> rename_i hZ <;> first | rfl | (rw [if_pos hZ]) | (rw [if_neg hZ]))
    · simp only [if_neg hB]
      by_cases hG : 0 ≤ h
      · simp only [if_pos hG]
        by_cases hE : hw = 4
        · simp only [if_pos hE]
          (split <;> rename_i hZ <;> first | rfl | (rw [if_pos hZ]) | (rw [if_neg hZ]))
        · simp only [if_neg hE]
          by_cases hF : hw = 7
          · simp only [if_pos hF]
            (split <;> rename_i hZ <;> first | rfl | (rw [if_pos hZ]) | (rw [if_neg hZ]))
          · simp only [if_neg hF]
            (split <;> rename_i hZ <;> first | rfl | (rw [if_pos hZ]) | (rw [if_neg hZ]))
      · simp only [if_neg hG]
        by_cases hE : hw = 4
        · simp only [if_pos hE]
          (split <;> rename_i hZ <;> first | rfl | (rw [if_pos hZ]) | (rw [if_neg hZ]))
        · simp only [if_neg hE]
          by_cases hF : hw = 7
          · simp only [if_pos hF]
            (split <;> rename_i hZ <;> first | rfl | (rw [if_pos hZ]) | (rw [if_neg hZ]))
          · simp only [if_neg hF]
            (split <;> rename_i hZ <;> first | rfl | (rw [if_pos hZ]) | (rw [if_neg hZ]))
  · simp only [if_neg hA]
    by_cases hG : 4 * c1 ≤ h
    · simp only [if_pos hG]
      by_cases hE : hw = 4
      · simp only [if_pos hE]
        (split <;> rename_i hZ <;> first | rfl | (rw [if_pos hZ]) | (rw [if_neg hZ]))
      · simp only [if_neg hE]
        by_cases hF : hw = 7
        · simp only [if_pos hF]
          (split <;> rename_i hZ <;> first | rfl | (rw [if_pos hZ]) | (rw [if_neg hZ]))
        · simp only [if_neg hF]
          (split <;> rename_i hZ <;> first | rfl | (rw [if_pos hZ]) | (rw [if_neg hZ]))
    · simp only [if_neg hG]
      by_cases hE : hw = 4
      · simp only [if_pos hE]
        (split <;> rename_i hZ <;> first | rfl | (rw [if_pos hZ]) | (rw [if_neg hZ]))
      · simp only [if_neg hE]
        by_cases hF : hw = 7
        · simp only [if_pos hF]
          (split <;> rename_i hZ <;> first | rfl | (rw [if_pos hZ]) | (rw [if_neg hZ]))
        · simp only [if_neg hF]
          (split <;> rename_i hZ <;> first | rfl | (rw [if_pos hZ]) | (rw [if_neg hZ]))
theorem e_stems {v : KS} {D : List (Nat × Nat)} {d : Nat} (hM : MD v D) (hD : WD D) (hd : 1 ≤ d ∧ d < 4) : ∃ F, mX6_stems v (nI d) = some (sR v 9 F) ∧ (∀ m, m < D.length → F (480 * (d + 2) + 4 * m) = nI (ob D d m)) ∧ ∀ j, (∀ m, m < D.length → j ≠ 480 * (d + 2) + 4 * m) → F j = gR v 9 j := by
  have hn := hM.2.1
  have e2 : (3 + nI d - 1 : Int32) = nI (d + 2) := by
    rw [show (3 : Int32) = nI 3 from rfl, i_add, show (1 : Int32) = nI 1 from rfl, i_sub (by omega) (by omega)]
    congr 1
    omega
  have ho : ∀ m, 480 * nI (d + 2) + 4 * nI m = nI (480 * (d + 2) + 4 * m) := fun m => by rw [show (480 : Int32) = nI 480 from rfl, show (4 : Int32) = nI 4 from rfl, i_mul, i_mul, i_add]
  have e := lp_fd (S := mX6_stems_s11 (nI d) (nI (d + 2))) (fun k (x : Int32 × (Nat → Int32)) => (x.1, nI k, sR v 9 x.2)) (fun k x => (nI (oh D d (k + 1)), upd x.2 (480 * (d + 2) + 4 * k) (nI (ob D d k)))) (fun x => sR v 9 x.2) D.length (nI (oh D d 0), gR v 9) (fun k x => x.1 = nI (oh D d k)) rfl (fun k x hk _ => rfl)
    (fun k x hk hx => by
      obtain ⟨s1, s2⟩ := stN (m := k) hD hd.2
      have hs := st_step (v := sR v 9 x.2) (h := x.1) (c1 := nI d) hM.1 hn hk (ho k) (by omega)
      rw [hx, show gR (sR v 9 x.2) 6 = gR v 6 from rfl, show gR (sR v 9 x.2) 7 = gR v 7 from rfl, (hM.2.2 k hk).1, (hM.2.2 k hk).2, s1, s2, sR_sR] at hs
      rw [hx]
      exact hs)
    (fun x _ => by
      unfold mX6_stems_s11
      dsimp only
      rw [show gI (sR v 9 x.2) 5 = gI v 5 from rfl, hM.1, if_pos (Int32.le_refl _)])
  rw [sR_self] at e
  have key : ∀ n, (∀ m, m < n → (fd (fun k (x : Int32 × (Nat → Int32)) => (nI (oh D d (k + 1)), upd x.2 (480 * (d + 2) + 4 * k) (nI (ob D d k)))) n (nI (oh D d 0), gR v 9)).2 (480 * (d + 2) + 4 * m) = nI (ob D d m)) ∧ ∀ j, (∀ m, m < n → j ≠ 480 * (d + 2) + 4 * m) → (fd (fun k (x : Int32 × (Nat → Int32)) => (nI (oh D d (k + 1)), upd x.2 (480 * (d + 2) + 4 * k) (nI (ob D d k)))) n (nI (oh D d 0), gR v 9)).2 j = gR v 9 j := by
    intro n
    induction n with
    | zero => exact ⟨fun m hm => absurd hm (Nat.not_lt_zero _), fun j _ => rfl⟩
    | succ n ih =>
      rw [fd_s]
      dsimp only
      refine ⟨fun m hm => ?_, fun j hj => ?_⟩
      · by_cases c : m = n
        · rw [c, u_is]
        · rw [u_no _ _ _ (by omega)]; exact ih.1 m (by omega)
      · rw [u_no _ _ _ (hj n (by omega))]
        exact ih.2 j (fun m hm => hj m (by omega))
  unfold mX6_stems
  rw [e2, show (0 : Int32) = nI (oh D d 0) from rfl]
  refine ⟨_, (congrArg (fun o => Option.bind o fun e11 => some e11) e).trans rfl, key D.length⟩
/-! the model lays out the day -/
def pre (D : List (Nat × Nat)) (f a m c : Nat) : Nat := if dH D m = 0 then 0 else lay (dL D m) (wm D f m) (a / 3) (a % 3 + 1) c
theorem e_zero {v : KS} {a m k : Nat} (ha : a < 21) (hm : m < 120) (h6 : gR v 6 m = nI (k + 4)) (hk : k ≤ 3) : lpF (mX6_passes_s113 (nI m) (nI a)) (0, v) = some (if k = 0 then sR v 9 (fd (fun c x => upd x (480 * a + 4 * m + c) 0) 4 (gR v 9)) else v) := by
  have e4 : (nI (k + 4) = 4) ↔ k = 0 := by rw [show (4 : Int32) = nI 4 from rfl, nI_eq (by omega) (by decide)]; omega
  have clm : (nI m).toNatClampNeg = m := i_cl (by omega)
  have im : inb (nI m) 120 := i_k (by omega) (by decide)
  by_cases c : k = 0
  · rw [if_pos c]
    have e := lp_fd0 (S := mX6_passes_s113 (nI m) (nI a)) (fun k (x : Nat → Int32) => (nI k, sR v 9 x)) (fun k x => upd x (480 * a + 4 * m + k) 0) (fun x => sR v 9 x) 4 (gR v 9)
      (fun j x hj => by
        unfold mX6_passes_s113
        dsimp only
        rw [if_neg (show ¬ (4 : Int32) ≤ nI j from nI_ge (b := 4) hj (by decide)), gd_t im, clm, show gR (sR v 9 x) 6 = gR v 6 from rfl, h6, if_pos (e4.mpr c), show (480 : Int32) = nI 480 from rfl, show (4 : Int32) = nI 4 from rfl, i_mul, i_mul, i_add, i_add, gd_t (i_k (by omega) (by decide)), i_cl (by omega), i_s, sR_sR]
        rfl)
      (fun x => by
        unfold mX6_passes_s113
        dsimp only
        rw [if_pos (by decide)])
    rw [sR_self] at e
    exact e
  · rw [if_neg c]
    refine lp_stop ?_
    unfold mX6_passes_s113
    dsimp only
    rw [if_neg (by decide), gd_t im, clm, h6, if_neg (fun q => c (e4.mp q))]
theorem e_blk {v : KS} {D : List (Nat × Nat)} {f a m : Nat} (hM : MD v D) (hD : WD D) (hf : f ≤ 100) (ha : a < 21) (hm : m < D.length) (h8 : gR v 8 m = nI (wm D f m)) : ∃ F, mX6_passes_s96 (nI m) (nI a, v) = some (.inr (nI (a + 1), sR v 9 F)) ∧ ∀ j, F j = if 480 * a + 4 * m ≤ j ∧ j < 480 * a + 4 * m + 4 then nI (pre D f a m (j - (480 * a + 4 * m))) else gR v 9 j := by
  have hn := hM.2.1
  have hl := WD_l hD m
  have hw : wm D f m < 101 := by have := wm_le D hf m; omega
  obtain ⟨h6, h7⟩ := hM.2.2 m hm
  obtain ⟨F, q1, q2⟩ := e_lays ha (show m < 120 by omega) h7 h8 hl hw
  unfold mX6_passes_s96
  dsimp only
  rw [if_neg (show ¬ (21 : Int32) ≤ nI a from nI_ge (b := 21) ha (by decide)), q1, bs, e_zero (v := sR v 9 F) ha (by omega) h6 (hD.2 m).1, bs, i_s]
  by_cases c : dH D m = 0
  · rw [if_pos c, sR_sR]
    refine ⟨_, rfl, fun j => ?_⟩
    show fd _ 4 F j = _
    rw [fd_up (480 * a + 4 * m) (fun _ => 0)]
    unfold pre
    rw [if_pos c]
    by_cases c2 : 480 * a + 4 * m ≤ j ∧ j < 480 * a + 4 * m + 4
    · rw [if_pos c2, if_pos c2]; rfl
    · rw [if_neg c2, if_neg c2, q2 j, if_neg c2]
  · rw [if_neg c]
    refine ⟨_, rfl, fun j => ?_⟩
    rw [q2 j]
    unfold pre
    rw [if_neg c]
theorem e_row {v : KS} {D : List (Nat × Nat)} {f m : Nat} (hM : MD v D) (hD : WD D) (hf : f ≤ 100) (hm : m < D.length) (h8 : gR v 8 m = nI (wm D f m)) : ∃ F, lpF (mX6_passes_s96 (nI m)) (0, v) = some (sR v 9 F) ∧ ∀ a m' c, a < 21 → m' < 120 → c < 4 → F (480 * a + 4 * m' + c) = if m' = m then nI (pre D f a m c) else gR v 9 (480 * a + 4 * m' + c) := by
  have hn := hM.2.1
  have key : ∀ n a0 (F0 : Nat → Int32), a0 + n = 21 → (∀ a m' c, a < 21 → m' < 120 → c < 4 → F0 (480 * a + 4 * m' + c) = if m' = m ∧ a < a0 then nI (pre D f a m c) else gR v 9 (480 * a + 4 * m' + c)) → ∃ F, lpF (mX6_passes_s96 (nI m)) (nI a0, sR v 9 F0) = some (sR v 9 F) ∧ ∀ a m' c, a < 21 → m' < 120 → c < 4 → F (480 * a + 4 * m' + c) = if m' = m then nI (pre D f a m c) else gR v 9 (480 * a + 4 * m' + c) := by
    intro n
    induction n with
    | zero =>
      intro a0 F0 h0 hF
      have h0 : a0 = 21 := h0
      subst h0
      refine ⟨F0, lp_stop ?_, fun a m' c h1 h2 h3 => ?_⟩
      · unfold mX6_passes_s96
        dsimp only
        rw [if_pos (by decide)]
      · rw [hF a m' c h1 h2 h3]
        by_cases q : m' = m
        · rw [if_pos ⟨q, h1⟩, if_pos q]
        · rw [if_neg (fun r => q r.1), if_neg q]
    | succ n ih =>
      intro a0 F0 h0 hF
      obtain ⟨F, q1, q2⟩ := e_blk (v := sR v 9 F0) (a := a0) hM hD hf (by omega) hm h8
      rw [sR_sR] at q1
      rw [lp_go q1]
      refine ih (a0 + 1) F (by omega) (fun a m' c h1 h2 h3 => ?_)
      rw [q2, show gR (sR v 9 F0) 9 = F0 from rfl, hF a m' c h1 h2 h3]
      by_cases c1 : m' = m ∧ a = a0
      · rw [c1.1, c1.2, if_pos (by omega), if_pos ⟨rfl, by omega⟩]
        congr 2
        omega
      · rw [if_neg (by omega)]
        by_cases c2 : m' = m ∧ a < a0
        · rw [if_pos c2, if_pos ⟨c2.1, by omega⟩]
        · rw [if_neg c2, if_neg (by omega)]
  have h := key 21 0 (gR v 9) rfl (fun a m' c _ _ _ => by rw [if_neg (by omega)])
  rw [sR_self] at h
  exact h
def wrN (k l w : Nat) : Nat := if k = 0 then w - 1 else min 100 (w + 2 + l / 3)
theorem wr0 : ∀ w, w < 101 → (0 ≤ nI w - 1 → nI w - 1 ≤ 100 ∧ nI w - 1 = nI (w - 1)) ∧ (¬ 0 ≤ nI w - 1 → w - 1 = 0) := by decide +kernel
theorem wr1 : ∀ l, l < 10 → ∀ w, w < 101 → 0 ≤ nI w + 2 + nI l / 3 ∧ (nI w + 2 + nI l / 3 ≤ 100 → nI w + 2 + nI l / 3 = nI (min 100 (w + 2 + l / 3))) ∧ (¬ nI w + 2 + nI l / 3 ≤ 100 → min 100 (w + 2 + l / 3) = 100) := by decide +kernel
theorem e_min {v : KS} {D : List (Nat × Nat)} {f m : Nat} (hM : MD v D) (hD : WD D) (hf : f ≤ 100) (hm : m < D.length) (h8 : gR v 8 m = nI (wm D f m)) : mX6_passes_s18 (nI m, v) = (lpF (mX6_passes_s96 (nI m)) (0, sR v 8 (upd (gR v 8) (m + 1) (nI (wm D f (m + 1)))))).bind fun e96 => some (.inr (nI (m + 1), e96)) := by
  have hn := hM.2.1
  have hl := WD_l hD m
  have hw : wm D f m < 101 := by have := wm_le D hf m; omega
  obtain ⟨h6, h7⟩ := hM.2.2 m hm
  have h0 := (hD.2 m).1
  have clm : (nI m).toNatClampNeg = m := i_cl (by omega)
  have clm1 : (nI (m + 1)).toNatClampNeg = m + 1 := i_cl (by omega)
  have im : inb (nI m) 120 := i_k (by omega) (by decide)
  have im1 : inb (nI m) 121 := i_k (by omega) (by decide)
  have im2 : inb (nI (m + 1)) 121 := i_k (by omega) (by decide)
  have e4 : (nI (dH D m + 4) = 4) ↔ dH D m = 0 := by rw [show (4 : Int32) = nI 4 from rfl, nI_eq (by omega) (by decide)]; omega
  have hs : wm D f (m + 1) = wrN (dH D m) (dL D m) (wm D f m) := rfl
  unfold mX6_passes_s18
  dsimp only
  rw [hM.1, if_neg (nI_ge hm (by omega)), i_s]
  simp only [gd_t im, gd_t im1, gd_t im2]
  rw [clm, clm1, h6, h7, h8, hs]
  unfold wrN
  by_cases c : dH D m = 0
  · obtain ⟨a1, a2⟩ := wr0 _ hw
    rw [if_pos (e4.mpr c), if_pos c]
    by_cases c1 : 0 ≤ nI (wm D f m) - 1
    · rw [if_pos c1, if_pos (a1 c1).1, (a1 c1).2]
    · rw [if_neg c1, a2 c1]; rfl
  · obtain ⟨a1, a2, a3⟩ := wr1 _ hl _ hw
    rw [if_neg (fun q => c (e4.mp q)), if_neg c, if_pos a1]
    by_cases c1 : nI (wm D f m) + 2 + nI (dL D m) / 3 ≤ 100
    · rw [if_pos c1, a2 c1]
    · rw [if_neg c1, a3 c1]; rfl
def PF (v v' : KS) : Prop := (∀ k, k = 0 ∨ 6 ≤ k → gI v' k = gI v k) ∧ (∀ k, k < 6 ∨ 10 ≤ k → gR v' k = gR v k) ∧ gL v' = gL v ∧ gA v' = gA v ∧ gO v' = gO v
theorem PF.mf {v v' : KS} (h : PF v v') : MF v v' := ⟨h.1 0 (Or.inl rfl), fun k hk => h.2.1 k (Or.inl hk)⟩
theorem e_days {v : KS} {D : List (Nat × Nat)} {f : Nat} (hM : MD v D) (hD : WD D) (hf : f ≤ 100) : ∃ G F, lpF mX6_passes_s18 (0, sR v 8 (upd (gR v 8) 0 (nI f))) = some (sR (sR v 8 G) 9 F) ∧ (∀ m, m ≤ D.length → G m = nI (wm D f m)) ∧ ∀ a m c, a < 21 → m < D.length → c < 4 → F (480 * a + 4 * m + c) = nI (pre D f a m c) := by
  have hn := hM.2.1
  have key : ∀ n m0 (G0 F0 : Nat → Int32), m0 + n = D.length → (∀ m, m ≤ m0 → G0 m = nI (wm D f m)) → (∀ a m c, a < 21 → m < m0 → c < 4 → F0 (480 * a + 4 * m + c) = nI (pre D f a m c)) → ∃ G F, lpF mX6_passes_s18 (nI m0, sR (sR v 8 G0) 9 F0) = some (sR (sR v 8 G) 9 F) ∧ (∀ m, m ≤ D.length → G m = nI (wm D f m)) ∧ ∀ a m c, a < 21 → m < D.length → c < 4 → F (480 * a + 4 * m + c) = nI (pre D f a m c) := by
    intro n
    induction n with
    | zero =>
      intro m0 G0 F0 h0 hG hF
      have h0 : m0 = D.length := h0
      subst h0
      refine ⟨G0, F0, lp_stop ?_, hG, hF⟩
      unfold mX6_passes_s18
      dsimp only
      rw [show gI (sR (sR v 8 G0) 9 F0) 5 = gI v 5 from rfl, hM.1, if_pos (Int32.le_refl _)]
    | succ n ih =>
      intro m0 G0 F0 h0 hG hF
      obtain ⟨w, hw⟩ : ∃ w : KS, w = sR (sR v 8 G0) 9 F0 := ⟨_, rfl⟩
      have hMw : MD w D := by rw [hw]; exact hM
      have h8 : gR w 8 m0 = nI (wm D f m0) := by rw [hw]; exact hG m0 (Nat.le_refl _)
      have q1 := e_min (f := f) hMw hD hf (show m0 < D.length by omega) h8
      have h8' : gR (sR w 8 (upd (gR w 8) (m0 + 1) (nI (wm D f (m0 + 1))))) 8 m0 = nI (wm D f m0) := by
        show upd (gR w 8) (m0 + 1) _ m0 = _
        rw [u_no _ _ _ (by omega)]; exact h8
      obtain ⟨F, r1, r2⟩ := e_row (v := sR w 8 (upd (gR w 8) (m0 + 1) (nI (wm D f (m0 + 1))))) hMw hD hf (show m0 < D.length by omega) h8'
      rw [r1, bs] at q1
      have hn2 : sR (sR w 8 (upd (gR w 8) (m0 + 1) (nI (wm D f (m0 + 1))))) 9 F = sR (sR v 8 (upd G0 (m0 + 1) (nI (wm D f (m0 + 1))))) 9 F := by
        rw [hw, sR_c _ _ _ (show 9 ≠ 8 by decide), sR_sR, sR_sR]
        rfl
      rw [hn2] at q1
      rw [← hw, lp_go q1]
      refine ih (m0 + 1) _ F (by omega) (fun m hm => ?_) (fun a m c h1 h2 h3 => ?_)
      · by_cases c : m = m0 + 1
        · rw [c, u_is]
        · rw [u_no _ _ _ c]; exact hG m (by omega)
      · rw [r2 a m c h1 (by omega) h3]
        by_cases c9 : m = m0
        · rw [if_pos c9, c9]
        · rw [if_neg c9]
          show gR w 9 _ = _
          rw [hw]
          exact hF a m c h1 (by omega) h3
  have h := key D.length 0 (upd (gR v 8) 0 (nI f)) (gR v 9) (by omega) (fun m hm => by
    have hm : m = 0 := by omega
    subst hm
    rw [u_is]; rfl) (fun a m c _ hm _ => absurd hm (Nat.not_lt_zero _))
  rw [show sR (sR v 8 (upd (gR v 8) 0 (nI f))) 9 (gR v 9) = sR v 8 (upd (gR v 8) 0 (nI f)) from sR_self (sR v 8 (upd (gR v 8) 0 (nI f))) 9] at h
  exact h
theorem pre_gv {D : List (Nat × Nat)} {f a m c : Nat} (hc : c < 4) (h : ¬ (a / 3 = 1 ∧ c = 0)) : pre D f a m c = gv D f a m c := by
  unfold pre gv lay gB
  by_cases c0 : dH D m = 0
  · rw [if_pos c0, if_pos c0]
  · rw [if_neg c0, if_neg c0]
    rcases (show c = 0 ∨ c = 1 ∨ c = 2 ∨ c = 3 by omega) with q | q | q | q <;> subst q
    · rw [if_pos rfl, if_pos rfl]
      by_cases c1 : a / 3 = 0
      · rw [if_pos c1, if_pos c1]
      · rw [if_neg c1, if_neg c1, if_neg (fun q => h ⟨q, rfl⟩)]
    · rfl
    · rfl
    · rfl
theorem ob_gv {D : List (Nat × Nat)} {f a m : Nat} (ha : a / 3 = 1) : nI (ob D (a % 3 + 1) m) = nI (gv D f a m 0) := by
  unfold gv gB
  by_cases c0 : dH D m = 0
  · rw [if_pos c0]
    unfold ob oms
    rw [if_neg (by omega), if_neg (by omega), Nat.min_zero]
  · rw [if_neg c0, if_pos rfl, if_neg (by omega), if_pos ha]
/-- the model's day stands: minutes, warmth, smokes -/
def MP (v : KS) (D : List (Nat × Nat)) (f : Nat) : Prop := MD v D ∧ (∀ m, m ≤ D.length → gR v 8 m = nI (wm D f m)) ∧ ∀ a m c, a < 21 → m < D.length → c < 4 → gR v 9 (480 * a + 4 * m + c) = nI (gv D f a m c)
theorem e_passes {v : KS} {t : Nat → Int32} {L f : Nat} (hL : L ≤ 120) (hB : Bk v t L) (hf : f ≤ 100) : ∃ v', mX6_passes v (nI f) = some (if (day t L).isLeft then 0 else 1, v') ∧ PF v v' ∧ (match day t L with
    | .inl _ => True
    | .inr D => WD D ∧ MP v' D f) := by
  obtain ⟨v1, r1, r2, r3⟩ := e_reads6 hL hB
  have f1 : PF v v1 := ⟨fun k hk => r2.1 k hk, fun k hk => r2.2.1 k (by omega), r2.2.2.1, r2.2.2.2.1, r2.2.2.2.2⟩
  unfold mX6_passes
  rw [r1, bs]
  cases hr : day t L with
  | inl s => exact ⟨v1, rfl, f1, trivial⟩
  | inr D =>
    rw [hr] at r3
    have hM : MD v1 D := r3
    have hD := day_WD hr
    obtain ⟨G, F, q1, q2, q3⟩ := e_days (f := f) hM hD hf
    obtain ⟨w, hw⟩ : ∃ w : KS, w = sR (sR v1 8 G) 9 F := ⟨_, rfl⟩
    have hMw : ∀ X, MD (sR w 9 X) D := fun X => by rw [hw]; exact hM
    have st : ∀ (d : Nat) (X : Nat → Int32), 1 ≤ d ∧ d < 4 → ∃ X', mX6_passes_s168 (nI d, sR w 9 X) = some (.inr (nI (d + 1), sR w 9 X')) ∧ (∀ m, m < D.length → X' (480 * (d + 2) + 4 * m) = nI (ob D d m)) ∧ ∀ j, (∀ m, m < D.length → j ≠ 480 * (d + 2) + 4 * m) → X' j = X j := by
      intro d X hd
      obtain ⟨X', e1, e2, e3⟩ := e_stems (hMw X) hD hd
      refine ⟨X', ?_, e2, e3⟩
      unfold mX6_passes_s168
      dsimp only
      rw [if_neg (show ¬ (4 : Int32) ≤ nI d from nI_ge (b := 4) hd.2 (by decide)), e1, bs, i_s, sR_sR]
    obtain ⟨X1, a1, a2, a3⟩ := st 1 (gR w 9) (by decide)
    obtain ⟨X2, b1, b2, b3⟩ := st 2 X1 (by decide)
    obtain ⟨X3, c1, c2, c3⟩ := st 3 X2 (by decide)
    have en : mX6_passes_s168 (nI 4, sR w 9 X3) = some (.inl (sR w 9 X3)) := by
      unfold mX6_passes_s168
      dsimp only
      rw [if_pos (by decide)]
    rw [sR_self] at a1
    have hl : lpF mX6_passes_s168 (1, w) = some (sR w 9 X3) := by
      rw [show (1 : Int32) = nI 1 from rfl, lp_go a1, lp_go b1, lp_go c1, lp_stop en]
    rw [if_neg (show ¬ (if (Sum.inr D : Nat ⊕ List (Nat × Nat)).isLeft = true then (0 : Int32) else 1) = 0 by exact (by decide : ¬ (1 : Int32) = 0))]
    rw [c_0, q1, bs, ← hw, hl, bs]
    refine ⟨_, rfl, ?_, hD, hMw _, ?_, ?_⟩
    · refine ⟨fun k hk => by rw [hw]; exact f1.1 k hk, fun k hk => ?_, by rw [hw]; exact f1.2.2.1, by rw [hw]; exact f1.2.2.2.1, by rw [hw]; exact f1.2.2.2.2⟩
      rw [s_RR, if_neg (by omega), hw, s_RR, if_neg (by omega), s_RR, if_neg (by omega)]
      exact f1.2.1 k hk
    · rw [hw]; exact q2
    · intro a m c h1 h2 h3
      show X3 _ = _
      have hw9 : gR w 9 (480 * a + 4 * m + c) = nI (pre D f a m c) := by rw [hw]; exact q3 a m c h1 h2 h3
      have hDl := hD.1
      by_cases h : a / 3 = 1 ∧ c = 0
      · obtain ⟨ha, hc⟩ := h
        subst hc
        rw [← ob_gv ha, Nat.add_zero]
        rcases (show a = 3 ∨ a = 4 ∨ a = 5 by omega) with q | q | q <;> subst q
        · rw [c3 _ (fun m' hm' => by omega), b3 _ (fun m' hm' => by omega)]
          exact a2 m h2
        · rw [c3 _ (fun m' hm' => by omega)]
          exact b2 m h2
        · exact c2 m h2
      · rw [c3 _ (fun m' hm' => by omega), b3 _ (fun m' hm' => by omega), a3 _ (fun m' hm' => by omega), hw9, pre_gv h3 h]
