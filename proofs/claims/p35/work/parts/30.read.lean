/-! reading the day: what its words are -/
section RD
variable {t : Nat → Int32} {L : Nat}
theorem skp_ge : ∀ (f p : Nat), p ≤ skp t L f p := by
  intro f
  induction f with
  | zero => intro p; exact Nat.le_refl _
  | succ f ih =>
    intro p
    unfold skp
    split
    · exact Nat.le_trans (Nat.le_succ p) (ih (p + 1))
    · exact Nat.le_refl _
theorem skp_le : ∀ (f p : Nat), p ≤ L → skp t L f p ≤ L := by
  intro f
  induction f with
  | zero => intro p h; exact h
  | succ f ih =>
    intro p h
    unfold skp
    split
    · next q => exact ih (p + 1) q.1
    · exact h
theorem skp_in : ∀ (f p i : Nat), p ≤ i → i < skp t L f p → i < L ∧ (t i).toInt = 32 := by
  intro f
  induction f with
  | zero => intro p i h1 h2; exact absurd h2 (Nat.not_lt.mpr h1)
  | succ f ih =>
    intro p i h1 h2
    unfold skp at h2
    split at h2
    · next q =>
      by_cases h3 : i = p
      · subst h3; exact q
      · exact ih (p + 1) i (by omega) h2
    · exact absurd h2 (Nat.not_lt.mpr h1)
theorem skp_end : ∀ (f p : Nat), L - p ≤ f → skp t L f p < L → (t (skp t L f p)).toInt ≠ 32 := by
  intro f
  induction f with
  | zero => intro p h1 h2; exact absurd h2 (by show ¬ p < L; omega)
  | succ f ih =>
    intro p h1 h2
    unfold skp at h2 ⊢
    split at h2
    · next q =>
      rw [if_pos q]
      exact ih (p + 1) (by omega) h2
    · next q =>
      rw [if_neg q]
      intro h3
      exact q ⟨h2, h3⟩
theorem run_ge (c : Nat) : ∀ (f p : Nat), p ≤ run t L c f p := by
  intro f
  induction f with
  | zero => intro p; exact Nat.le_refl _
  | succ f ih =>
    intro p
    unfold run
    split
    · exact Nat.le_trans (Nat.le_succ p) (ih (p + 1))
    · exact Nat.le_refl _
theorem run_le (c : Nat) : ∀ (f p : Nat), p ≤ L → run t L c f p ≤ L := by
  intro f
  induction f with
  | zero => intro p h; exact h
  | succ f ih =>
    intro p h
    unfold run
    split
    · next q => exact ih (p + 1) q.1
    · exact h
theorem run_in (c : Nat) : ∀ (f p i : Nat), p ≤ i → i < run t L c f p → i < L ∧ srt (t i).toInt = c := by
  intro f
  induction f with
  | zero => intro p i h1 h2; exact absurd h2 (Nat.not_lt.mpr h1)
  | succ f ih =>
    intro p i h1 h2
    unfold run at h2
    split at h2
    · next q =>
      by_cases h3 : i = p
      · subst h3; exact q
      · exact ih (p + 1) i (by omega) h2
    · exact absurd h2 (Nat.not_lt.mpr h1)
theorem run_end (c : Nat) : ∀ (f p : Nat), L - p ≤ f → run t L c f p < L → srt (t (run t L c f p)).toInt ≠ c := by
  intro f
  induction f with
  | zero => intro p h1 h2; exact absurd h2 (by show ¬ p < L; omega)
  | succ f ih =>
    intro p h1 h2
    unfold run at h2 ⊢
    split at h2
    · next q =>
      rw [if_pos q]
      exact ih (p + 1) (by omega) h2
    · next q =>
      rw [if_neg q]
      intro h3
      exact q ⟨h2, h3⟩
theorem tkE_gt (s : Nat) : s < tkE t L s := by
  unfold tkE
  split
  · exact Nat.lt_succ_self s
  · exact run_ge _ L (s + 1)
theorem tkE_le {s : Nat} (h : s < L) : tkE t L s ≤ L := by
  unfold tkE
  split
  · exact h
  · exact run_le _ L (s + 1) h
theorem tkE_in {s i : Nat} (h1 : s < i) (h2 : i < tkE t L s) : i < L ∧ srt (t i).toInt = srt (t s).toInt ∧ srt (t s).toInt ≠ 3 := by
  unfold tkE at h2
  split at h2
  · exact absurd h2 (by omega)
  · next q =>
    obtain ⟨a, b⟩ := run_in _ L (s + 1) i h1 h2
    exact ⟨a, b, q⟩
theorem tkE_end {s : Nat} (h2 : tkE t L s < L) : srt (t s).toInt = 3 ∨ srt (t (tkE t L s)).toInt ≠ srt (t s).toInt := by
  unfold tkE at h2 ⊢
  split at h2
  · next q => exact Or.inl q
  · next q =>
    rw [if_neg q]
    exact Or.inr (run_end _ L (s + 1) (by omega) h2)
theorem srt_le (x : Int) : srt x ≤ 3 := by
  unfold srt
  repeat' split
  all_goals decide
theorem srt_0 {x : Int} : srt x = 0 ↔ x = 32 := by
  unfold srt
  constructor
  · intro h
    by_cases c : x = 32
    · exact c
    · rw [if_neg c] at h
      repeat' split at h
      all_goals cases h
  · intro h; rw [if_pos h]
theorem srt_1 {x : Int} : srt x = 1 ↔ 97 ≤ x ∧ x ≤ 122 := by
  unfold srt
  repeat' split
  all_goals first | (constructor <;> intro h <;> omega) | (constructor <;> intro h <;> first | assumption | rfl | cases h)
theorem srt_2 {x : Int} : srt x = 2 ↔ 48 ≤ x ∧ x ≤ 57 := by
  unfold srt
  repeat' split
  all_goals first | (constructor <;> intro h <;> omega) | (constructor <;> intro h <;> first | assumption | rfl | cases h)
/-- with fuel enough, all the same -/
theorem prs_fuel : ∀ (f g p : Nat) (x : TS), p ≤ L → L - p < f → L - p < g → prs t L f p x = prs t L g p x := by
  intro f
  induction f with
  | zero => intro g p x _ h; exact absurd h (Nat.not_lt_zero _)
  | succ f ih =>
    intro g p x hp h1 h2
    cases g with
    | zero => exact absurd h2 (Nat.not_lt_zero _)
    | succ g =>
      unfold prs
      by_cases h3 : skp t L L p < L
      · rw [if_pos h3, if_pos h3]
        have h4 := tkE_gt (t := t) (L := L) (skp t L L p)
        have h5 := tkE_le (t := t) h3
        have h6 := skp_ge (t := t) (L := L) L p
        cases tst t (skp t L L p) (tkE t L (skp t L L p)) x with
        | none => rfl
        | some x' => exact ih g _ x' h5 (by omega) (by omega)
      · rw [if_neg h3, if_neg h3]
def PR (t : Nat → Int32) (L p : Nat) (x : TS) : Nat ⊕ List (Nat × Nat) := prs t L (L + 1) p x
theorem PR_go {p s : Nat} {x x' : TS} (hp : p ≤ L) (hs : skp t L L p = s) (h : s < L) (hx : tst t s (tkE t L s) x = some x') : PR t L p x = PR t L (tkE t L s) x' := by
  have h4 := tkE_gt (t := t) (L := L) s
  have h5 := tkE_le (t := t) h
  have h6 := skp_ge (t := t) (L := L) L p
  show prs t L (L + 1) p x = prs t L (L + 1) (tkE t L s) x'
  rw [prs_fuel (L + 1) L (tkE t L s) x' h5 (by omega) (by omega)]
  rw [prs.eq_2]
  subst hs
  rw [if_pos h, hx]
theorem PR_bad {p s : Nat} {x : TS} (hs : skp t L L p = s) (h : s < L) (hx : tst t s (tkE t L s) x = none) : PR t L p x = .inl s := by
  show prs t L (L + 1) p x = _
  rw [prs.eq_2]
  subst hs
  rw [if_pos h, hx]
theorem PR_end {p : Nat} {x : TS} (h : ¬ skp t L L p < L) : PR t L p x = if x.1 = 0 then .inr x.2.2.2 else .inl L := by
  show prs t L (L + 1) p x = _
  rw [prs.eq_2]
  rw [if_neg h]
end RD
/-! the class's small readers -/
theorem e_sortOf (a : Int32) : mX0_sortOf a = some (nI (srt a.toInt)) := by
  unfold mX0_sortOf srt
  repeat' split
  all_goals first | rfl | (exfalso; (simp only [z_lt, z_le, z_gt, z_ge, z_eq, zm1, zm2, Int32.reduceToInt] at *; omega))
theorem nI_eqS {a b : Nat} (ha : a ≤ 3) (hb : b ≤ 3) : nI a = nI b ↔ a = b := nI_eq (by omega) (by omega)
theorem nI_q0 {a : Nat} (ha : a ≤ 3) : (nI a = 0) ↔ a = 0 := nI_eqS ha (by decide)
theorem nI_q2 {a : Nat} (ha : a ≤ 3) : (nI a = 2) ↔ a = 2 := nI_eqS ha (by decide)
theorem nI_q3 {a : Nat} (ha : a ≤ 3) : (nI a = 3) ↔ a = 3 := nI_eqS ha (by decide)
section RC
variable {t f : Nat → Int32} {L : Nat}
theorem e_begins (hL : L ≤ 120) (hf : ∀ i, i < L → f i = t i) {p : Nat} (hp : p < L) : mX0_beginsToken 120 f (nI p) = some (if srt (t p).toInt = 0 then 0 else if srt (t p).toInt = 3 ∨ p = 0 ∨ srt (t (p - 1)).toInt ≠ srt (t p).toInt then 1 else 0) := by
  unfold mX0_beginsToken
  have l1 := srt_le (t p).toInt
  rw [e_atN (by decide) f (by omega), bs, hf p hp, e_sortOf, bs]
  by_cases h0 : srt (t p).toInt = 0
  · rw [h0, if_pos (show nI 0 = (0 : Int32) from rfl), if_pos rfl]
  · rw [if_neg h0, if_neg (fun q => h0 ((nI_q0 l1).mp q))]
    by_cases h3 : srt (t p).toInt = 3
    · rw [h3, if_pos (by rfl), if_pos (Or.inl rfl)]
    · rw [if_neg (fun q => h3 ((nI_q3 l1).mp q))]
      by_cases hp0 : p = 0
      · rw [if_pos (by rw [hp0]; rfl), if_pos (Or.inr (Or.inl hp0))]
      · have e1 : nI p - 1 = nI (p - 1) := by rw [show (1 : Int32) = nI 1 from rfl, i_sub (by omega) (by omega)]
        have l2 := srt_le (t (p - 1)).toInt
        rw [if_neg (nI_ne0 (by omega) (by omega)), e1, e_atN (by decide) f (by omega), bs, hf (p - 1) (by omega), e_sortOf, bs]
        by_cases h4 : srt (t (p - 1)).toInt = srt (t p).toInt
        · rw [h4, if_pos rfl, if_neg (by rintro (q | q | q); exact h3 q; exact hp0 q; exact q rfl)]
        · rw [if_neg (fun q => h4 ((nI_eqS l2 l1).mp q)), if_pos (Or.inr (Or.inr h4))]
theorem e_tokRun (hL : L ≤ 120) (hf : ∀ i, i < L → f i = t i) {c : Nat} (hc : c < 3) : ∀ (m p : Nat), p ≤ L → L - p ≤ m → lpF (mX0_tokenEnd_s14 120 f (nI L) (nI c)) (nI p) = some (nI (run t L c m p)) := by
  have hc3 : ¬ nI c = 3 := fun q => by have := (nI_eqS (a := c) (b := 3) (by omega) (by decide)).mp q; omega
  intro m
  induction m with
  | zero =>
    intro p h1 h2
    refine lp_stop ?_
    unfold mX0_tokenEnd_s14
    rw [if_neg hc3, if_pos (nI_le (by omega) (by omega))]
    rfl
  | succ m ih =>
    intro p h1 h2
    unfold run
    by_cases h3 : p < L
    · have hs : mX0_tokenEnd_s14 120 f (nI L) (nI c) (nI p) = if srt (t p).toInt = c then some (.inr (nI (p + 1))) else some (.inl (nI p)) := by
        unfold mX0_tokenEnd_s14
        rw [if_neg hc3, if_neg (nI_ge h3 (by omega)), e_atN (by decide) f (by omega), bs, hf p h3, e_sortOf, bs, i_s]
        by_cases h4 : srt (t p).toInt = c
        · rw [if_pos h4, h4, if_pos rfl]
        · rw [if_neg h4, if_neg (fun q => h4 ((nI_eqS (srt_le _) (by omega)).mp q))]
      by_cases h4 : srt (t p).toInt = c
      · rw [if_pos h4] at hs
        rw [if_pos ⟨h3, h4⟩, lp_go hs]
        exact ih (p + 1) h3 (by omega)
      · rw [if_neg h4] at hs
        rw [if_neg (fun q => h4 q.2)]
        exact lp_stop hs
    · rw [if_neg (fun q => h3 q.1)]
      refine lp_stop ?_
      unfold mX0_tokenEnd_s14
      rw [if_neg hc3, if_pos (nI_le (by omega) (by omega))]
theorem e_tokEnd (hL : L ≤ 120) (hf : ∀ i, i < L → f i = t i) {s : Nat} (hs : s < L) : mX0_tokenEnd 120 f (nI s) (nI L) = some (nI (tkE t L s)) := by
  unfold mX0_tokenEnd tkE
  rw [e_atN (by decide) f (by omega), bs, hf s hs, e_sortOf, bs, i_s]
  by_cases h3 : srt (t s).toInt = 3
  · rw [if_pos h3, h3]
    have e : lpF (mX0_tokenEnd_s14 120 f (nI L) (nI 3)) (nI (s + 1)) = some (nI (s + 1)) := by
      refine lp_stop ?_
      unfold mX0_tokenEnd_s14
      rw [if_pos (by rfl)]
    rw [e]
    rfl
  · rw [if_neg h3, e_tokRun hL hf (by have := srt_le (t s).toInt; omega) L (s + 1) hs (by omega)]
    rfl
theorem w_len : ∀ w, w < 4 → mJ0_length_8abf5 w = some (nI (wrdL.getD w []).length) := by
  intro w hw
  rcases (show w = 0 ∨ w = 1 ∨ w = 2 ∨ w = 3 by omega) with h | h | h | h <;> subst h <;> rfl
theorem w_chr : ∀ w, w < 4 → ∀ i, i < (wrdL.getD w []).length → ∃ c : Int32, mJ0_charAt_5068e w (nI i) = some c ∧ c.toInt = (wrdL.getD w []).getD i 0 := by
  intro w hw i hi
  have hl : (wrdL.getD w []).length ≤ 5 := by
    rcases (show w = 0 ∨ w = 1 ∨ w = 2 ∨ w = 3 by omega) with h | h | h | h <;> subst h <;> decide
  rcases (show w = 0 ∨ w = 1 ∨ w = 2 ∨ w = 3 by omega) with h | h | h | h <;> subst h <;> rcases (show i = 0 ∨ i = 1 ∨ i = 2 ∨ i = 3 ∨ i = 4 by omega) with h | h | h | h | h <;> subst h <;> first | exact ⟨_, rfl, by decide⟩ | exact absurd hi (by decide)
theorem w_5 : ∀ w, w < 4 → (wrdL.getD w []).length ≤ 5 := by
  intro w hw
  rcases (show w = 0 ∨ w = 1 ∨ w = 2 ∨ w = 3 by omega) with h | h | h | h <;> subst h <;> decide
def wOk (t : Nat → Int32) (s w i : Nat) : Prop := (t (s + i)).toInt = (wrdL.getD w []).getD i 0
theorem isW_iff {t : Nat → Int32} {s e w : Nat} : isW t s e w = true ↔ e = s + (wrdL.getD w []).length ∧ ∀ i, i < (wrdL.getD w []).length → wOk t s w i := by
  unfold isW wOk
  rw [Bool.and_eq_true, beq_iff_eq, List.all_eq_true]
  constructor
  · rintro ⟨h1, h2⟩
    exact ⟨h1, fun i hi => beq_iff_eq.mp (h2 i (List.mem_range.mpr hi))⟩
  · rintro ⟨h1, h2⟩
    exact ⟨h1, fun i hi => beq_iff_eq.mpr (h2 i (List.mem_range.mp hi))⟩
theorem e_isWord (hL : L ≤ 120) (hf : ∀ i, i < L → f i = t i) {s e w : Nat} (hs : s < e) (he : e ≤ L) (hw : w < 4) : mX0_isWord 120 f (nI s) (nI e) w = some (if isW t s e w then 1 else 0) := by
  have h5 := w_5 w hw
  unfold mX0_isWord
  rw [w_len w hw, bs, i_sub (by omega) (by omega)]
  by_cases h1 : e = s + (wrdL.getD w []).length
  · rw [if_pos (by rw [h1, Nat.add_sub_cancel_left])]
    have key : ∀ m i, i + m = (wrdL.getD w []).length → (∀ j, j < i → wOk t s w j) → lpF (mX0_isWord_s15 120 f (nI s) w) (nI i) = some (if isW t s e w then .inl () else .inr ()) := by
      intro m
      induction m with
      | zero =>
        intro i hi hj
        have hW : isW t s e w = true := isW_iff.mpr ⟨h1, fun j hj2 => hj j (by omega)⟩
        rw [hW]
        refine lp_stop ?_
        unfold mX0_isWord_s15
        rw [w_len w hw, bs, if_pos (nI_le (by omega) (by omega))]
        rfl
      | succ m ih =>
        intro i hi hj
        obtain ⟨c, hc1, hc2⟩ := w_chr w hw i (by omega)
        have hstep : mX0_isWord_s15 120 f (nI s) w (nI i) = if t (s + i) = c then some (.inr (nI (i + 1))) else some (.inl (.inr ())) := by
          unfold mX0_isWord_s15
          rw [w_len w hw, bs, if_neg (nI_ge (by omega) (by omega)), i_add, e_atN (by decide) f (by omega), bs, hc1, bs, hf (s + i) (by omega), i_s]
        by_cases h2 : t (s + i) = c
        · rw [if_pos h2] at hstep
          rw [lp_go hstep]
          refine ih (i + 1) (by omega) (fun j hj2 => ?_)
          by_cases h3 : j = i
          · subst h3; show (t (s + j)).toInt = _; rw [h2, hc2]
          · exact hj j (by omega)
        · rw [if_neg h2] at hstep
          have hW : ¬ isW t s e w = true := fun q => h2 (z_inj (((isW_iff.mp q).2 i (by omega)).trans hc2.symm))
          rw [if_neg hW]
          exact lp_stop hstep
    have k0 : lpF (mX0_isWord_s15 120 f (nI s) w) 0 = _ := key _ 0 (Nat.zero_add _) (fun j hj => absurd hj (Nat.not_lt_zero _))
    rw [k0, bs]
    split <;> rfl
  · rw [if_neg (fun q => h1 (by have := (nI_eq (a := e - s) (b := (wrdL.getD w []).length) (by omega) (by omega)).mp q; omega)), if_neg (fun q => h1 (isW_iff.mp q).1)]
def o32 (o : Option Nat) : Int32 := match o with
  | some n => nI n
  | none => -1
theorem e_itemAt (hL : L ≤ 120) (hf : ∀ i, i < L → f i = t i) {s e : Nat} (hs : s < e) (he : e ≤ L) : mX0_itemAt 120 f (nI s) (nI e) = some (o32 (wrd t s e)) := by
  unfold mX0_itemAt wrd
  rw [e_isWord hL hf hs he (by decide), bs, b_i2]
  by_cases h0 : isW t s e 0 = true
  · rw [if_pos h0, if_pos h0]; rfl
  · rw [if_neg h0, if_neg h0, e_isWord hL hf hs he (by decide), bs, b_i2]
    by_cases h1 : isW t s e 1 = true
    · rw [if_pos h1, if_pos h1]; rfl
    · rw [if_neg h1, if_neg h1, e_isWord hL hf hs he (by decide), bs, b_i2]
      by_cases h2 : isW t s e 2 = true
      · rw [if_pos h2, if_pos h2]; rfl
      · rw [if_neg h2, if_neg h2, e_isWord hL hf hs he (by decide), bs, b_i2]
        by_cases h3 : isW t s e 3 = true
        · rw [if_pos h3, if_pos h3]; rfl
        · rw [if_neg h3, if_neg h3]; rfl
theorem e_numberAt (hL : L ≤ 120) (hf : ∀ i, i < L → f i = t i) {s : Nat} (hs : s < L) : mX0_numberAt 120 f (nI s) (nI (tkE t L s)) = some (o32 (nmb t s (tkE t L s))) := by
  have h1 := tkE_gt (t := t) (L := L) s
  have h2 := tkE_le (t := t) hs
  have h3 := @tkE_in t L s (s + 1) (by omega)
  generalize tkE t L s = e at h1 h2 h3 ⊢
  unfold mX0_numberAt nmb
  rw [e_atN (by decide) f (by omega), bs, hf s hs, e_sortOf, bs, i_sub (by omega) (by omega)]
  by_cases c2 : srt (t s).toInt = 2
  · rw [c2, if_pos (by rfl)]
    have d1 := srt_2.mp c2
    by_cases c3 : e ≤ s + 2
    · rw [if_pos (show nI (e - s) ≤ 2 from nI_le (b := 2) (by omega) (by decide)), if_pos ⟨rfl, c3⟩]
      have st : ∀ (x : Int32) (p : Nat), p < e → mX0_numberAt_s26 120 f (nI e) (x, nI p) = some (.inr (10 * x + t p - 48, nI (p + 1))) := by
        intro x p hp
        unfold mX0_numberAt_s26
        dsimp only
        rw [if_neg (nI_ge hp (by omega)), e_atN (by decide) f (by omega), bs, hf p (by omega), i_s]
      have en : ∀ x : Int32, mX0_numberAt_s26 120 f (nI e) (x, nI e) = some (.inl x) := by
        intro x
        unfold mX0_numberAt_s26
        dsimp only
        rw [if_pos (Int32.le_refl _)]
      have v1 : (10 * 0 + t s - 48 : Int32).toInt = (t s).toInt - 48 := by
        rw [Int32.mul_zero, Int32.zero_add, z_subc (by show (-2147483648 : Int) ≤ _ - 48; omega) (by show _ - 48 < (2147483648 : Int); omega)]
        rfl
      by_cases c4 : e = s + 1
      · rw [if_pos c4]
        have q : lpF (mX0_numberAt_s26 120 f (nI e)) (0, nI s) = some (nI ((t s).toInt - 48).toNat) := by
          rw [lp_go (st 0 s h1), ← c4, lp_stop (en _)]
          congr 1
          refine z_nat ?_
          rw [v1]; omega
        rw [q]
        rfl
      · rw [if_neg c4]
        have e2 : e = s + 1 + 1 := by omega
        have d2 := srt_2.mp ((h3 (by omega)).2.1.trans c2)
        have q : lpF (mX0_numberAt_s26 120 f (nI e)) (0, nI s) = some (nI (10 * ((t s).toInt - 48) + ((t (s + 1)).toInt - 48)).toNat) := by
          rw [lp_go (st 0 s h1), lp_go (st _ (s + 1) (by omega)), ← e2, lp_stop (en _)]
          congr 1
          refine z_nat ?_
          generalize hx : (10 * 0 + t s - 48 : Int32) = y at v1 ⊢
          have m1 : (10 * y).toInt = 10 * ((t s).toInt - 48) := by rw [z_mulc (by rw [v1]; show (-2147483648 : Int) ≤ 10 * _; omega) (by rw [v1]; show 10 * _ < (2147483648 : Int); omega), v1]; rfl
          have m2 : (10 * y + t (s + 1)).toInt = 10 * ((t s).toInt - 48) + (t (s + 1)).toInt := by rw [z_addc (by omega) (by omega), m1]
          rw [z_subc (by rw [m2]; show (-2147483648 : Int) ≤ _ - 48; omega) (by rw [m2]; show _ - 48 < (2147483648 : Int); omega), m2]
          show _ - 48 = _
          omega
        rw [q]
        rfl
    · rw [if_neg (fun q => c3 (by have := (nI_leI (a := e - s) (b := 2) (by omega) (by decide)).mp q; omega)), if_neg (fun q => c3 q.2)]
      rfl
  · rw [if_neg (fun q => c2 ((nI_q2 (srt_le _)).mp q)), if_neg (fun q => c2 q.1)]
    rfl
end RC
