/-! the law's cells; the typed text is read as the day by cells -/
theorem m31 (x : Int32) : (x &&& 2147483647).toInt = x.toInt % 2147483648 := by
  have e : (x &&& 2147483647).toInt = (x.toBitVec &&& 2147483647#32).toInt := rfl
  have h1 : (x.toBitVec &&& 2147483647#32).toNat = x.toBitVec.toNat % 2147483648 := by
    rw [BitVec.toNat_and]
    exact Nat.and_two_pow_sub_one_eq_mod _ 31
  have e2 : x.toInt = x.toBitVec.toInt := rfl
  have hlt := x.toBitVec.isLt
  rw [e, e2, BitVec.toInt_eq_toNat_cond, BitVec.toInt_eq_toNat_cond, h1]
  split <;> split <;> omega
theorem shs : ∀ k, k < 31 → ((nI k &&& 31).toBitVec.smod 32).toNat = k := by decide +kernel
theorem i_shr {c k : Nat} (hc : c < 2147483648) (hk : k < 31) : nI c >>> (nI k &&& 31) = nI (c / 2 ^ k) := by
  have e : (nI c >>> (nI k &&& 31)).toInt = ((nI c).toBitVec.sshiftRight' ((nI k &&& 31).toBitVec.smod 32)).toInt := rfl
  have e2 : (nI c).toBitVec.toInt = (c : Int) := z_nN hc
  refine z_nat ?_
  rw [e, BitVec.toInt_sshiftRight', shs k hk, Int.shiftRight_eq_div_pow, e2]
  exact (Int.natCast_ediv c (2 ^ k)).symm
theorem i_mod {x n : Nat} (hx : x < 2147483648) (hn : n < 2147483648) : nI x - nI x / nI n * nI n = nI (x % n) := by
  have h1 := Nat.div_add_mod x n
  rw [i_div hx hn, i_mul, i_sub (by rw [Nat.mul_comm]; omega) hx]
  congr 1
  rw [Nat.mul_comm (x / n) n]
  omega
/-- a cell of the script -/
def cl (sa : Nat → Nat) (k : Nat) : Nat := if sa 11 ≤ k then ((15485957 * nI k + 107) &&& 2147483647 : Int32).toInt.toNat else ((scr sa k) &&& 2147483647).toInt.toNat
theorem cl_lt (sa : Nat → Nat) (k : Nat) : cl sa k < 2147483648 := by
  unfold cl
  have h1 := m31 (15485957 * nI k + 107)
  have h2 := m31 (scr sa k)
  split <;> omega
theorem e_cell {sa : Nat → Nat} (h : sa 11 ≤ 260) {k : Nat} (hk : k < 2147483648) : mL_cell sa (nI k) = some (nI (cl sa k)) := by
  unfold mL_cell cl
  by_cases c : sa 11 ≤ k
  · rw [if_pos (show Int32.ofNat (sa 11) ≤ nI k from nI_le c hk), if_pos c]
    congr 1
    have h1 := m31 (15485957 * nI k + 107)
    refine z_nat ?_
    omega
  · rw [if_neg (show ¬ Int32.ofNat (sa 11) ≤ nI k from nI_ge (by omega) (by omega)), if_neg c, gd_t (i_k (by omega) (by omega)), i_cl (by omega)]
    congr 1
    have h1 := m31 (scr sa k)
    refine z_nat ?_
    omega
/-! a token at a place -/
section TOK
variable {t : Nat → Int32} {L : Nat}
theorem skp_is {p s : Nat} (h1 : p ≤ s) (h2 : s ≤ L) (h3 : ∀ i, p ≤ i → i < s → (t i).toInt = 32) (h4 : s < L → (t s).toInt ≠ 32) : skp t L L p = s := by
  rcases Nat.lt_trichotomy (skp t L L p) s with h | h | h
  · exact absurd (h3 _ (skp_ge L p) h) (skp_end L p (by omega) (by omega))
  · exact h
  · have := skp_in L p s h1 h
    exact absurd this.2 (h4 this.1)
theorem tk_is {s e : Nat} (h1 : s < e) (h2 : e ≤ L) (hc : srt (t s).toInt ≠ 3) (h3 : ∀ i, s < i → i < e → srt (t i).toInt = srt (t s).toInt) (h4 : e < L → srt (t e).toInt ≠ srt (t s).toInt) : tkE t L s = e := by
  have hg := tkE_gt (t := t) (L := L) s
  rcases Nat.lt_trichotomy (tkE t L s) e with h | h | h
  · rcases tkE_end (t := t) (L := L) (s := s) (by omega) with q | q
    · exact absurd q hc
    · exact absurd (h3 _ hg h) q
  · exact h
  · have := tkE_in (t := t) (L := L) h1 h
    exact absurd this.2.1 (h4 this.1)
theorem tk_3 {s : Nat} (hc : srt (t s).toInt = 3) : tkE t L s = s + 1 := by
  unfold tkE
  rw [if_pos hc]
theorem go_tok {p s e : Nat} {x x' : TS} (hp : p ≤ s) (hs : s < L) (sp : ∀ i, p ≤ i → i < s → (t i).toInt = 32) (ns : (t s).toInt ≠ 32) (he : tkE t L s = e) (hx : tst t s e x = some x') : PR t L p x = PR t L e x' := by
  have h := PR_go (t := t) (L := L) (p := p) (s := s) (x := x) (x' := x') (by omega) (skp_is hp (by omega) sp (fun _ => ns)) hs (by rw [he]; exact hx)
  rw [he] at h
  exact h
theorem srt_d {x : Int} (h1 : 48 ≤ x) (h2 : x ≤ 57) : srt x = 2 := srt_2.mpr ⟨h1, h2⟩
theorem srt_l {x : Int} (h1 : 97 ≤ x) (h2 : x ≤ 122) : srt x = 1 := srt_1.mpr ⟨h1, h2⟩
/-- a number: a space, one or two digits -/
theorem go_num {p v e : Nat} (hv : v ≤ 99) (h0 : (t p).toInt = 32) (h1 : v ≤ 9 → (t (p + 1)).toInt = 48 + v) (h2 : 9 < v → (t (p + 1)).toInt = 48 + (v / 10 : Nat) ∧ (t (p + 2)).toInt = 48 + (v % 10 : Nat)) (he : e = p + 2 + (if 9 < v then 1 else 0)) (hL : e < L) (hn : srt (t e).toInt ≠ 2) {x x' : TS} (hx : nmb t (p + 1) e = some v → tst t (p + 1) e x = some x') : PR t L p x = PR t L e x' := by
  have hsp : ∀ i, p ≤ i → i < p + 1 → (t i).toInt = 32 := fun i h1 h2 => by rw [show i = p by omega]; exact h0
  by_cases c : 9 < v
  · obtain ⟨a1, a2⟩ := h2 c
    rw [if_pos c] at he
    have s1 : srt (t (p + 1)).toInt = 2 := srt_d (by omega) (by omega)
    have s2 : srt (t (p + 2)).toInt = 2 := srt_d (by omega) (by omega)
    have hk : tkE t L (p + 1) = e := tk_is (by omega) (by omega) (by omega) (fun i h1 h2 => by rw [show i = p + 2 by omega]; omega) (fun _ => by omega)
    refine go_tok (by omega) (by omega) hsp (by omega) hk (hx ?_)
    unfold nmb
    rw [if_pos ⟨s1, by omega⟩, if_neg (by omega)]
    congr 1
    rw [show p + 1 + 1 = p + 2 by omega]
    omega
  · have a1 := h1 (by omega)
    rw [if_neg c] at he
    have s1 : srt (t (p + 1)).toInt = 2 := srt_d (by omega) (by omega)
    have hk : tkE t L (p + 1) = e := tk_is (by omega) (by omega) (by omega) (fun i h1 h2 => by omega) (fun _ => by omega)
    refine go_tok (by omega) (by omega) hsp (by omega) hk (hx ?_)
    unfold nmb
    rw [if_pos ⟨s1, by omega⟩, if_pos (by omega)]
    congr 1
    omega
theorem w_first : ∀ w, w < 4 → ∀ w', w' < 4 → (wrdL.getD w []).getD 0 0 = (wrdL.getD w' []).getD 0 0 → w = w' := by decide
theorem w_pos : ∀ w, w < 4 → 0 < (wrdL.getD w []).length := by decide
theorem w_let : ∀ w, w < 4 → ∀ i, i < (wrdL.getD w []).length → 97 ≤ (wrdL.getD w []).getD i 0 ∧ (wrdL.getD w []).getD i 0 ≤ 122 := by decide
theorem wrd_is {s e w : Nat} (hw : w < 4) (h : isW t s e w = true) : wrd t s e = some w := by
  have hu : ∀ w', w' < 4 → isW t s e w' = true → w' = w := fun w' hw' h' => by
    have a := (isW_iff.mp h').2 0 (w_pos w' hw')
    have b := (isW_iff.mp h).2 0 (w_pos w hw)
    unfold wOk at a b
    exact w_first w' hw' w hw (a.symm.trans b)
  unfold wrd
  by_cases h0 : isW t s e 0 = true
  · rw [if_pos h0, hu 0 (by decide) h0]
  · rw [if_neg h0]
    by_cases h1 : isW t s e 1 = true
    · rw [if_pos h1, hu 1 (by decide) h1]
    · rw [if_neg h1]
      by_cases h2 : isW t s e 2 = true
      · rw [if_pos h2, hu 2 (by decide) h2]
      · rw [if_neg h2]
        by_cases h3 : isW t s e 3 = true
        · rw [if_pos h3, hu 3 (by decide) h3]
        · exfalso
          rcases (show w = 0 ∨ w = 1 ∨ w = 2 ∨ w = 3 by omega) with q | q | q | q <;> subst q
          · exact h0 h
          · exact h1 h
          · exact h2 h
          · exact h3 h
/-- a word: spaces, then its letters, then none -/
theorem go_word {p s w it ld : Nat} {D : List (Nat × Nat)} (hp : p ≤ s) (hw : w < 4) (sp : ∀ i, p ≤ i → i < s → (t i).toInt = 32) (hb : ∀ i, i < (wrdL.getD w []).length → (t (s + i)).toInt = (wrdL.getD w []).getD i 0) (hL : s + (wrdL.getD w []).length < L) (hn : srt (t (s + (wrdL.getD w []).length)).toInt ≠ 1) : PR t L p (0, it, ld, D) = PR t L (s + (wrdL.getD w []).length) (if w = 2 then 1 else 2, w, 0, D) := by
  have hpos := w_pos w hw
  have hs : ∀ i, i < (wrdL.getD w []).length → srt (t (s + i)).toInt = 1 := fun i hi => by
    have := w_let w hw i hi
    rw [hb i hi]
    exact srt_l this.1 this.2
  have s0 : srt (t s).toInt = 1 := hs 0 hpos
  have hk : tkE t L s = s + (wrdL.getD w []).length := tk_is (by omega) (by omega) (by omega) (fun i h1 h2 => by
    have := hs (i - s) (by omega)
    rw [show s + (i - s) = i by omega] at this
    omega) (fun _ => by omega)
  refine go_tok hp (by omega) sp (fun z => by have := srt_0.mpr z; omega) hk ?_
  show (wrd t s _).map _ = _
  rw [wrd_is hw (isW_iff.mpr ⟨rfl, hb⟩)]
  rfl
/-- the end of an item -/
theorem go_end {p it ld : Nat} {D : List (Nat × Nat)} (hL : p < L) (h : (t p).toInt = 59) : PR t L p (3, it, ld, D) = PR t L (p + 1) (0, it, ld, D) := by
  have hs : srt (t p).toInt = 3 := by rw [h]; rfl
  refine go_tok (Nat.le_refl _) hL (fun i h1 h2 => by omega) (by omega) (tk_3 hs) ?_
  show (if (t p).toInt = 59 then some (0, it, ld, D) else none) = _
  rw [if_pos h]
theorem PR_fin {it ld : Nat} {D : List (Nat × Nat)} : PR t L L (0, it, ld, D) = .inr D := by
  have h := skp_is (t := t) (L := L) (p := L) (s := L) (Nat.le_refl _) (Nat.le_refl _) (fun i h1 h2 => by omega) (fun q => by omega)
  rw [PR_end (by rw [h]; omega)]
  rfl
end TOK
/-! a text read so far -/
def Pre (t : Nat → Int32) (p : Nat) (D : List (Nat × Nat)) : Prop := ∀ (t' : Nat → Int32) (L : Nat), (∀ i, i < p → t' i = t i) → p ≤ L → L ≤ 120 → ∃ it ld, PR t' L 0 (0, 0, 0, []) = PR t' L p (0, it, ld, D)
theorem Pre.nil (t : Nat → Int32) : Pre t 0 [] := fun t' L _ _ _ => ⟨0, 0, rfl⟩
theorem Pre.fin {t : Nat → Int32} {L : Nat} {D : List (Nat × Nat)} (h : Pre t L D) (hL : L ≤ 120) : day t L = .inr D := by
  obtain ⟨it, ld, e⟩ := h t L (fun _ _ => rfl) (Nat.le_refl _) hL
  have : day t L = PR t L 0 (0, 0, 0, []) := rfl
  rw [this, e, PR_fin]
/-- what is typed for a number -/
def nmB (v : Nat) : List Int := 32 :: (if 9 < v then [48 + (v / 10 : Nat), 48 + (v % 10 : Nat)] else [48 + (v : Int)])
theorem nmB_len (v : Nat) : (nmB v).length = 2 + (if 9 < v then 1 else 0) := by
  unfold nmB
  split <;> rfl
theorem nmB_at {t : Nat → Int32} {p v : Nat} (h : ∀ i, i < (nmB v).length → (t (p + i)).toInt = (nmB v).getD i 0) : (t p).toInt = 32 ∧ (v ≤ 9 → (t (p + 1)).toInt = 48 + v) ∧ (9 < v → (t (p + 1)).toInt = 48 + (v / 10 : Nat) ∧ (t (p + 2)).toInt = 48 + (v % 10 : Nat)) := by
  unfold nmB at h
  by_cases c : 9 < v
  · rw [if_pos c] at h
    exact ⟨h 0 (show 0 < 3 by decide), fun q => by omega, fun _ => ⟨h 1 (show 1 < 3 by decide), h 2 (show 2 < 3 by decide)⟩⟩
  · rw [if_neg c] at h
    exact ⟨h 0 (show 0 < 2 by decide), fun _ => h 1 (show 1 < 2 by decide), fun q => by omega⟩
/-- an item behind what was read: a word (behind so many spaces), its strength perhaps, its minutes, its end -/
theorem Pre.item {t t2 : Nat → Int32} {p sp w ld n q1 q2 : Nat} {D : List (Nat × Nat)} (h : Pre t p D) (ha : ∀ i, i < p → t2 i = t i) (hw : w < 4) (hsp : ∀ i, i < sp → (t2 (p + i)).toInt = 32) (hb : ∀ i, i < (wrdL.getD w []).length → (t2 (p + sp + i)).toInt = (wrdL.getD w []).getD i 0) (hq1 : q1 = p + sp + (wrdL.getD w []).length) (hl : (w = 2 ∧ 1 ≤ ld ∧ ld ≤ 9 ∧ (∀ i, i < (nmB ld).length → (t2 (q1 + i)).toInt = (nmB ld).getD i 0) ∧ q2 = q1 + (nmB ld).length) ∨ (w ≠ 2 ∧ ld = 0 ∧ q2 = q1)) (hn1 : 1 ≤ n) (hn : D.length + n ≤ 60) (hn2 : ∀ i, i < (nmB n).length → (t2 (q2 + i)).toInt = (nmB n).getD i 0) (he : (t2 (q2 + (nmB n).length)).toInt = 59) : Pre t2 (q2 + (nmB n).length + 1) (D ++ List.replicate n (w, ld)) := by
  intro t' L h1 h2 h3
  have hq12 : q1 ≤ q2 := by rcases hl with l | l <;> omega
  have hnl := nmB_len n
  obtain ⟨it, lo, e⟩ := h t' L (fun i hi => (h1 i (by omega)).trans (ha i hi)) (by omega) h3
  obtain ⟨b0, b1, b2⟩ := nmB_at (t := t') (p := q2) (v := n) (fun i hi => by rw [h1 _ (by omega)]; exact hn2 i hi)
  have e1 : PR t' L p (0, it, lo, D) = PR t' L q1 (if w = 2 then 1 else 2, w, 0, D) := by
    rw [hq1]
    refine go_word (by omega) hw (fun i g1 g2 => ?_) (fun i hi => ?_) (by omega) ?_
    · rw [h1 i (by omega)]
      have := hsp (i - p) (by omega)
      rw [show p + (i - p) = i by omega] at this
      exact this
    · rw [h1 _ (by omega)]; exact hb i hi
    · rw [← hq1, h1 _ (by omega)]
      rcases hl with ⟨-, l1, l2, l3, l4⟩ | ⟨-, -, l4⟩
      · have := nmB_len ld
        have := l3 0 (by omega)
        rw [show q1 + 0 = q1 from rfl] at this
        rw [this]
        exact (show srt 32 ≠ 1 by decide)
      · have := hn2 0 (by omega)
        rw [l4, show q1 + 0 = q1 from rfl] at this
        rw [this]
        exact (show srt 32 ≠ 1 by decide)
  have e2 : PR t' L q1 (if w = 2 then 1 else 2, w, 0, D) = PR t' L q2 (2, w, ld, D) := by
    rcases hl with ⟨l0, l1, l2, l3, l4⟩ | ⟨l0, l1, l4⟩
    · rw [if_pos l0]
      obtain ⟨c0, c1, c2⟩ := nmB_at (t := t') (p := q1) (v := ld) (fun i hi => by rw [h1 _ (by omega)]; exact l3 i hi)
      have hll := nmB_len ld
      refine go_num (v := ld) (by omega) c0 c1 c2 (by omega) (by omega) (by rw [b0]; exact (show srt 32 ≠ 2 by decide)) (fun hm => ?_)
      show (nmb t' (q1 + 1) q2).bind _ = _
      rw [hm]
      show (if 1 ≤ ld ∧ ld ≤ 9 then some (2, w, ld, D) else none) = _
      rw [if_pos ⟨l1, l2⟩]
    · rw [if_neg l0, l4, l1]
  have e3 : PR t' L q2 (2, w, ld, D) = PR t' L (q2 + (nmB n).length) (3, w, ld, D ++ List.replicate n (w, ld)) := by
    refine go_num (v := n) (by omega) b0 b1 b2 (by omega) (by omega) (by rw [h1 _ (by omega), he]; exact (show srt 59 ≠ 2 by decide)) (fun hm => ?_)
    show (nmb t' (q2 + 1) _).bind _ = _
    rw [hm]
    show (if 1 ≤ n ∧ n ≤ 60 ∧ D.length + n ≤ 120 then some (3, w, ld, D ++ List.replicate n (w, ld)) else none) = _
    rw [if_pos ⟨hn1, by omega, by omega⟩]
  have e4 := go_end (t := t') (L := L) (p := q2 + (nmB n).length) (it := w) (ld := ld) (D := D ++ List.replicate n (w, ld)) (by omega) (by rw [h1 _ (by omega)]; exact he)
  exact ⟨w, ld, by rw [e, e1, e2, e3, e4]⟩
