/-! what the day's text says: minutes, each with what it is (0 stand, 1 idle, 2 pull, 3 coast) and its load -/
def srt (x : Int) : Nat := if x = 32 then 0 else if 97 ≤ x ∧ x ≤ 122 then 1 else if 48 ≤ x ∧ x ≤ 57 then 2 else 3
def skp (t : Nat → Int32) (L : Nat) : Nat → Nat → Nat
  | 0, p => p
  | f + 1, p => if p < L ∧ (t p).toInt = 32 then skp t L f (p + 1) else p
def run (t : Nat → Int32) (L c : Nat) : Nat → Nat → Nat
  | 0, p => p
  | f + 1, p => if p < L ∧ srt (t p).toInt = c then run t L c f (p + 1) else p
def tkE (t : Nat → Int32) (L s : Nat) : Nat := if srt (t s).toInt = 3 then s + 1 else run t L (srt (t s).toInt) L (s + 1)
def wrdL : List (List Int) := [[115, 116, 97, 110, 100], [105, 100, 108, 101], [112, 117, 108, 108], [99, 111, 97, 115, 116]]
def isW (t : Nat → Int32) (s e w : Nat) : Bool := (e == s + (wrdL.getD w []).length) && (List.range (wrdL.getD w []).length).all (fun i => (t (s + i)).toInt == (wrdL.getD w []).getD i 0)
def wrd (t : Nat → Int32) (s e : Nat) : Option Nat := if isW t s e 0 then some 0 else if isW t s e 1 then some 1 else if isW t s e 2 then some 2 else if isW t s e 3 then some 3 else none
def nmb (t : Nat → Int32) (s e : Nat) : Option Nat := if srt (t s).toInt = 2 ∧ e ≤ s + 2 then some (if e = s + 1 then ((t s).toInt - 48).toNat else (10 * ((t s).toInt - 48) + ((t (s + 1)).toInt - 48)).toNat) else none
/-- a token's step: what is awaited (0 a word, 1 a strength, 2 a span, 3 an end), the item, its load, the minutes -/
abbrev TS : Type := Nat × Nat × Nat × List (Nat × Nat)
def tst (t : Nat → Int32) (s e : Nat) : TS → Option TS
  | (0, _, _, D) => (wrd t s e).map (fun w => (if w = 2 then 1 else 2, w, 0, D))
  | (1, it, _, D) => (nmb t s e).bind (fun n => if 1 ≤ n ∧ n ≤ 9 then some (2, it, n, D) else none)
  | (2, it, ld, D) => (nmb t s e).bind (fun n => if 1 ≤ n ∧ n ≤ 60 ∧ D.length + n ≤ 120 then some (3, it, ld, D ++ List.replicate n (it, ld)) else none)
  | (_ + 3, it, ld, D) => if (t s).toInt = 59 then some (0, it, ld, D) else none
def prs (t : Nat → Int32) (L : Nat) : Nat → Nat → TS → Nat ⊕ List (Nat × Nat)
  | 0, p, _ => .inl p
  | f + 1, p, x => if skp t L L p < L then (match tst t (skp t L L p) (tkE t L (skp t L L p)) x with
      | none => .inl (skp t L L p)
      | some x' => prs t L f (tkE t L (skp t L L p)) x') else if x.1 = 0 then .inr x.2.2.2 else .inl L
def day (t : Nat → Int32) (L : Nat) : Nat ⊕ List (Nat × Nat) := prs t L (L + 1) 0 (0, 0, 0, [])
/-! the day's minutes: how warm, what a stem burns, what a fault gives -/
def dH (D : List (Nat × Nat)) (m : Nat) : Nat := (D.getD m (0, 0)).1
def dL (D : List (Nat × Nat)) (m : Nat) : Nat := (D.getD m (0, 0)).2
def wm (D : List (Nat × Nat)) (f : Nat) : Nat → Nat
  | 0 => f
  | m + 1 => if dH D m = 0 then wm D f m - 1 else min 100 (wm D f m + 2 + dL D m / 3)
def omo (D : List (Nat × Nat)) (d m : Nat) : Nat := if dH D m = 0 then d else if dH D m = 3 then 3 * d else 0
def oms (D : List (Nat × Nat)) (d m : Nat) : Nat := if dH D m = 2 then 4 * d else if dH D m = 1 then 1 else 0
def oh (D : List (Nat × Nat)) (d : Nat) : Nat → Nat
  | 0 => 0
  | m + 1 => min (oh D d m + omo D d m) 30 - min (min (oh D d m + omo D d m) 30) (oms D d m)
def ob (D : List (Nat × Nat)) (d m : Nat) : Nat := min (min (oh D d m + omo D d m) 30) (oms D d m)
def gB (D : List (Nat × Nat)) (k d m : Nat) : Nat := if k = 0 then d * dL D m else if k = 1 then ob D d m else if k = 6 then d * dL D m / 2 else 0
def gS (k d w : Nat) : Nat := if k = 2 then d * (100 - w) / 20 else if k = 6 then (if w < 30 then 1 else 0) else 0
def gH (k d l w : Nat) : Nat := if k = 3 then d * (100 - w) / 20 / 2 + (if l = 0 then d else 0) else 0
def gK (k d l : Nat) : Nat := if k = 4 then d * (l - 4) else if k = 5 then (if l = 0 then 0 else d * (l - 2)) + (if 6 < l then d else 0) else 0
def gv (D : List (Nat × Nat)) (f a m c : Nat) : Nat := if dH D m = 0 then 0 else if c = 0 then gB D (a / 3) (a % 3 + 1) m else if c = 1 then gS (a / 3) (a % 3 + 1) (wm D f m) else if c = 2 then gH (a / 3) (a % 3 + 1) (dL D m) (wm D f m) else gK (a / 3) (a % 3 + 1) (dL D m)
def WD (D : List (Nat × Nat)) : Prop := D.length ≤ 120 ∧ ∀ m, dH D m ≤ 3 ∧ (dH D m = 2 → 1 ≤ dL D m ∧ dL D m ≤ 9) ∧ (dH D m ≠ 2 → dL D m = 0)
/-! guesses: of a number, the cylinders and faults -/
def pO (p : Nat) : Nat := if p < 3 then 0 else if p < 5 then 1 else 2
def pT (p : Nat) : Nat := if p < 3 then p + 1 else if p < 5 then p - 1 else 3
/-- what a guess's faults give together, but for the cylinder that is cut (4 or more: none) -/
def am (each : Nat → Nat) (cut : Int) (g : Nat) : Nat := if g = 0 then 0 else if g < 85 then (if ((g - 1) / 21 : Nat) = cut then 0 else each ((g - 1) % 21)) else (if (pO ((g - 85) / 441) : Nat) = cut then 0 else each ((g - 85) % 441 / 21)) + (if (pT ((g - 85) / 441) : Nat) = cut then 0 else each ((g - 85) % 441 % 21))
def lev (thin a : Nat) : Nat := if a = 0 then 0 else if a ≤ thin then 1 else 2
def wf (pr : Nat → Nat) (a : Nat) : Nat := pr (a / 3) * (3 - a % 3)
def wB (snd : Nat) (pr : Nat → Nat) (g : Nat) : Nat := if g = 0 then snd else if g < 85 then 9 * wf pr ((g - 1) % 21) else wf pr ((g - 85) % 441 / 21) * wf pr ((g - 85) % 441 % 21)
/-- a guess's weight behind k looks: lk i is what the looks hold, four numbers each -/
def wL (D : List (Nat × Nat)) (f thin rgt snd : Nat) (pr : Nat → Nat) (lk : Nat → Int) (g : Nat) : Nat → Nat
  | 0 => wB snd pr g
  | k + 1 => if lk (4 * k) < D.length then wL D f thin rgt snd pr lk g k * (if (lev thin (am (fun a => gv D f a (lk (4 * k)).toNat (lk (4 * k + 1)).toNat) (lk (4 * k + 2)) g) : Int) = lk (4 * k + 3) then 2 * rgt else 10 - rgt) else wL D f thin rgt snd pr lk g k
def sm (f : Nat → Nat) : Nat → Nat
  | 0 => 0
  | n + 1 => sm f n + f n
/-! the relation: a kept state against a book -/
def Kt (k : KS) (b : Nat → Int32) (L : Nat) : Prop := L ≤ 120 ∧ gI k 2 = nI L ∧ b 0 = nI L ∧ ∀ i, i < L → gR k 1 i = b (80 + i) ∧ 0 ≤ (b (80 + i)).toInt ∧ (b (80 + i)).toInt < 256
def Ks (k : KS) (b : Nat → Int32) : Prop := (∀ i, i < 4 → gR k 2 i = b (4 + i)) ∧ (0 ≤ (b 4).toInt ∧ (b 4).toInt ≤ 100) ∧ (1 ≤ (b 5).toInt ∧ (b 5).toInt ≤ 40) ∧ (1 ≤ (b 6).toInt ∧ (b 6).toInt ≤ 9) ∧ 0 ≤ (b 7).toInt ∧ (b 7).toInt ≤ 99
def Kp (k : KS) (b : Nat → Int32) : Prop := ∀ i, i < 7 → gR k 3 i = b (8 + i) ∧ 0 ≤ (b (8 + i)).toInt ∧ (b (8 + i)).toInt ≤ 9
def Km (k : KS) (b : Nat → Int32) : Prop := ∀ i, i < 4 → gR k 4 i = b (15 + i) ∧ -1 ≤ (b (15 + i)).toInt ∧ (b (15 + i)).toInt ≤ 20
def Kl (k : KS) (b : Nat → Int32) (K : Nat) : Prop := K ≤ 8 ∧ gI k 3 = nI K ∧ b 1 = nI K ∧ (∀ i, i < 4 * K → gR k 5 i = b (20 + i)) ∧ ∀ i, i < K → (0 ≤ (b (20 + 4 * i)).toInt ∧ (b (20 + 4 * i)).toInt < 120) ∧ (0 ≤ (b (20 + (4 * i + 1))).toInt ∧ (b (20 + (4 * i + 1))).toInt ≤ 3) ∧ (-1 ≤ (b (20 + (4 * i + 2))).toInt ∧ (b (20 + (4 * i + 2))).toInt ≤ 3) ∧ 0 ≤ (b (20 + (4 * i + 3))).toInt ∧ (b (20 + (4 * i + 3))).toInt ≤ 2
def Kq (k : KS) (b : Nat → Int32) (P : Nat) : Prop := P ≤ 6 ∧ gI k 4 = nI P ∧ b 2 = nI P ∧ (∀ i, i < 3 * P → gR k 6 i = b (60 + i)) ∧ ∀ i, i < P → (1 ≤ (b (60 + 3 * i)).toInt ∧ (b (60 + 3 * i)).toInt ≤ 99) ∧ (1 ≤ (b (60 + (3 * i + 1))).toInt ∧ (b (60 + (3 * i + 1))).toInt ≤ 99) ∧ 0 ≤ (b (60 + (3 * i + 2))).toInt ∧ (b (60 + (3 * i + 2))).toInt ≤ 10
def RK (k : KS) (b : Nat → Int32) (L K P : Nat) : Prop := Kt k b L ∧ Ks k b ∧ Kp k b ∧ Km k b ∧ Kl k b K ∧ Kq k b P
def Img (o : Option KS) (v : KS) (i : Nat) : Prop := match o with
  | none => gR v 2 i = 0
  | some k => gR v 2 i = 1 ∧ ∃ L K P, RK k (fun j => gR v 1 (200 * i + j)) L K P
def Rf (u v : KS) : Prop := ∀ j, j < 3 → gR u 0 j = gR v 3 j
/-- how many limbs of 30 bits -/
def lc (x : Nat) : Nat := if x = 0 then 0 else if x < 1073741824 then 1 else if x < 1073741824 * 1073741824 then 2 else 3
def lb (x k : Nat) : Nat := x / 1073741824 ^ k % 1073741824
def FR (u v : KS) : Prop := gI v 0 = 0 ∧ ∃ x y : Nat, (x < 1073741824 ^ 3 ∧ y < 1073741824 ^ 3) ∧ (∀ k, k < 3 → gA u 2 k = lN (lb x k) ∧ gA u 3 k = lN (lb y k) ∧ gR v 4 k = nI (lb x k) ∧ gR v 4 (12 + k) = nI (lb y k)) ∧ gR v 5 0 = nI (lc x) ∧ gR v 5 1 = nI (lc y)
abbrev tx (b : Nat → Int32) : Nat → Int32 := fun i => b (80 + i)
abbrev nat (x : Int32) : Nat := x.toInt.toNat
/-- the class's day is what the text says -/
def DayOk (u : KS) (t : Nat → Int32) (L f : Nat) : Prop := match day t L with
  | .inl s => gI u 5 = nI s ∧ ∃ n, n ≤ 120 ∧ gI u 6 = nI n
  | .inr D => gI u 5 = -1 ∧ gI u 6 = nI D.length ∧ (∀ m, m < D.length → gR u 8 m = nI (dH D m) ∧ gR u 9 m = nI (dL D m) ∧ ∀ d, 1 ≤ d → d ≤ 3 → gR u 10 (120 * (d - 1) + m) = nI (ob D d m)) ∧ ∀ m, m ≤ D.length → gR u 7 m = nI (wm D f m)
def GsOk (u : KS) (D : List (Nat × Nat)) (f thin rgt snd : Nat) (pr : Nat → Nat) (lk : Nat → Int) (K : Nat) : Prop := (∀ g, g < 2731 → gA u 0 g = lN (wL D f thin rgt snd pr lk g K)) ∧ gL u 0 = lN (sm (fun g => wL D f thin rgt snd pr lk g K) 2731)
abbrev bpr (b : Nat → Int32) : Nat → Nat := fun i => nat (b (8 + i))
abbrev blk (b : Nat → Int32) : Nat → Int := fun i => (b (20 + i)).toInt
def CA (u : KS) (b : Nat → Int32) (L K : Nat) : Prop := (gI u 0 = 1 ∨ (gI u 0 = 0 ∧ DayOk u (tx b) L (nat (b 4)))) ∧ (gI u 1 = 1 ∨ (gI u 1 = 0 ∧ gI u 0 = 0 ∧ ∃ D, day (tx b) L = .inr D ∧ GsOk u D (nat (b 4)) (nat (b 5)) (nat (b 6)) (nat (b 7)) (bpr b) (blk b) K))
/-! what a change leaves -/
theorem Kt_cg {k k' : KS} {b b' : Nat → Int32} {L : Nat} (h : Kt k b L) (h1 : gI k' 2 = gI k 2) (h2 : gR k' 1 = gR k 1) (h3 : b' 0 = b 0) (h4 : ∀ i, i < L → b' (80 + i) = b (80 + i)) : Kt k' b' L := by
  obtain ⟨a1, a2, a3, a4⟩ := h
  refine ⟨a1, h1.trans a2, h3.trans a3, fun i hi => ?_⟩
  rw [h2, h4 i hi]
  exact a4 i hi
theorem Ks_cg {k k' : KS} {b b' : Nat → Int32} (h : Ks k b) (h2 : gR k' 2 = gR k 2) (h3 : ∀ i, i < 4 → b' (4 + i) = b (4 + i)) : Ks k' b' := by
  obtain ⟨a1, a2, a3, a4, a5⟩ := h
  have q0 := h3 0 (by decide)
  have q1 := h3 1 (by decide)
  have q2 := h3 2 (by decide)
  have q3 := h3 3 (by decide)
  refine ⟨fun i hi => ?_, ?_, ?_, ?_, ?_⟩
  · rw [h2, h3 i hi]; exact a1 i hi
  · rw [show b' 4 = b 4 from q0]; exact a2
  · rw [show b' 5 = b 5 from q1]; exact a3
  · rw [show b' 6 = b 6 from q2]; exact a4
  · rw [show b' 7 = b 7 from q3]; exact a5
theorem Kp_cg {k k' : KS} {b b' : Nat → Int32} (h : Kp k b) (h2 : gR k' 3 = gR k 3) (h3 : ∀ i, i < 7 → b' (8 + i) = b (8 + i)) : Kp k' b' := by
  intro i hi
  rw [h2, h3 i hi]
  exact h i hi
theorem Km_cg {k k' : KS} {b b' : Nat → Int32} (h : Km k b) (h2 : gR k' 4 = gR k 4) (h3 : ∀ i, i < 4 → b' (15 + i) = b (15 + i)) : Km k' b' := by
  intro i hi
  rw [h2, h3 i hi]
  exact h i hi
theorem Kl_cg {k k' : KS} {b b' : Nat → Int32} {K : Nat} (h : Kl k b K) (h1 : gI k' 3 = gI k 3) (h2 : gR k' 5 = gR k 5) (h3 : b' 1 = b 1) (h4 : ∀ i, i < 4 * K → b' (20 + i) = b (20 + i)) : Kl k' b' K := by
  obtain ⟨a1, a2, a3, a4, a5⟩ := h
  refine ⟨a1, h1.trans a2, h3.trans a3, fun i hi => ?_, fun i hi => ?_⟩
  · rw [h2, h4 i hi]; exact a4 i hi
  · rw [h4 (4 * i) (by omega), h4 (4 * i + 1) (by omega), h4 (4 * i + 2) (by omega), h4 (4 * i + 3) (by omega)]; exact a5 i hi
theorem Kq_cg {k k' : KS} {b b' : Nat → Int32} {P : Nat} (h : Kq k b P) (h1 : gI k' 4 = gI k 4) (h2 : gR k' 6 = gR k 6) (h3 : b' 2 = b 2) (h4 : ∀ i, i < 3 * P → b' (60 + i) = b (60 + i)) : Kq k' b' P := by
  obtain ⟨a1, a2, a3, a4, a5⟩ := h
  refine ⟨a1, h1.trans a2, h3.trans a3, fun i hi => ?_, fun i hi => ?_⟩
  · rw [h2, h4 i hi]; exact a4 i hi
  · rw [h4 (3 * i) (by omega), h4 (3 * i + 1) (by omega), h4 (3 * i + 2) (by omega)]; exact a5 i hi
theorem tx_up {b : Nat → Int32} {j : Nat} {x : Int32} (h : j < 80) : tx (upd b j x) = tx b := by
  funext i
  exact u_no _ _ _ (by omega)
theorem bpr_up {b : Nat → Int32} {j : Nat} {x : Int32} (h : j < 8 ∨ 15 ≤ j) : (∀ i, i < 7 → bpr (upd b j x) i = bpr b i) := by
  intro i hi
  show nat (upd b j x (8 + i)) = _
  rw [u_no _ _ _ (by omega)]
theorem b5_O (u : KS) (j : Nat) : gO (b5 u j) = gO u := rfl
