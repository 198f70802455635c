/-! THE STATE AS MATHEMATICS: attributes of items by number, values; what the class's heap holds of it -/
abbrev sg : Type := (Nat → Nat → Nat) × (Nat → Nat → Int32)
def sN (S : sg) : Nat := S.1 0 0
def lv (S : sg) (i : Nat) : Nat := S.1 1 i
def us (S : sg) (i : Nat) : Nat := S.1 2 i
def dg (S : sg) (i : Nat) : Nat := S.1 3 i
/-- parent; of a name of values (88) the item that it names -/
def pa (S : sg) (i : Nat) : Nat := S.1 4 i
def rc (S : sg) (i : Nat) : Nat := S.1 5 i
/-- 0 no table, 1 a table, 2 one that depends -/
def tb (S : sg) (i : Nat) : Nat := S.1 6 i
def le (S : sg) (i : Nat) : Nat := S.1 7 i
def mo (S : sg) (i : Nat) : Nat := S.1 8 i
def nw (S : sg) (i : Nat) : Nat := S.1 9 i
def sy (S : sg) (i : Nat) : Nat := S.1 10 i
def va (S : sg) (i : Nat) : Nat := S.1 11 i
def rg (S : sg) (i : Nat) : Nat := S.1 12 i
def rn (S : sg) (i : Nat) : Nat := S.1 13 i
def rm (S : sg) (i : Nat) : Nat := S.1 14 i
def ot (S : sg) (i : Nat) : Nat := S.1 15 i
/-- 0 no name, else its number + 1 -/
def na (S : sg) (i : Nat) : Nat := S.1 16 i
def laid (S : sg) : Nat := S.1 17 0
def looks (S : sg) : Nat := S.1 18 0
def looked (S : sg) : Nat := S.1 19 0
def byt (S : sg) (i : Nat) : Nat := S.1 20 i
/-- the level of what is below an item; 0: nothing yet -/
def lb (S : sg) (i : Nat) : Nat := S.1 21 i
/-- 1: redefined by another one -/
def rd (S : sg) (i : Nat) : Nat := S.1 22 i
/-- what lay found (told when it is laid out): place, length, stride, slack bytes, the table (its item) with which its end moves, all bytes, byte i -/
def pl (S : sg) (i : Nat) : Nat := S.1 23 i
def ln (S : sg) (i : Nat) : Nat := S.1 24 i
def sd (S : sg) (i : Nat) : Nat := S.1 25 i
def sk (S : sg) (i : Nat) : Nat := S.1 26 i
def mv (S : sg) (i : Nat) : Nat := S.1 27 i
def tot (S : sg) : Nat := S.1 28 0
def bv (S : sg) (i : Nat) : Int32 := S.2 30 i
/-- a long that is a number -/
def nL (n : Nat) : Int64 := Int64.ofNat n
def vl (S : sg) (i : Nat) : Int32 := S.2 0 i
def rf (S : sg) (k i : Nat) : Int32 := S.2 (1 + k) i
def rt (S : sg) (k i : Nat) : Int32 := S.2 (11 + k) i
def lies (S : sg) (i : Nat) : Bool := decide (lv S i < 50) || decide (lv S i = 77)
/-- parent as the class has it -/
def cpa (S : sg) (i : Nat) : Nat := if lv S i < 50 then pa S i else 0
def nam (S : sg) (i : Nat) : Nat := if lv S i = 88 then pa S i else 0
/-- bytes of an item by its usage -/
def byts (u n : Nat) : Nat := if u = 1 ∨ u = 3 ∨ u = 4 then n else if u = 2 then 2 * n else if u = 5 ∨ u = 6 then n + 1 else if u = 7 then n / 2 + 1 else if u = 8 then (if n < 5 then 2 else if n < 10 then 4 else 8) else if u = 9 ∨ u = 11 then 4 else if u = 10 then 8 else 0
/-- chains of parents: one on it (itself first) with f; how many with f -/
def chkF (p : Nat → Nat) (f : Nat → Bool) : Nat → Nat → Bool
  | 0, _ => false
  | n + 1, j => if j = 0 then false else f j || chkF p f n (p j)
def chk (p : Nat → Nat) (f : Nat → Bool) (j : Nat) : Bool := chkF p f (j + 1) j
def chnF (p : Nat → Nat) (f : Nat → Bool) : Nat → Nat → Nat
  | 0, _ => 0
  | n + 1, j => if j = 0 then 0 else (if f j then 1 else 0) + chnF p f n (p j)
def chn (p : Nat → Nat) (f : Nat → Bool) (j : Nat) : Nat := chnF p f (j + 1) j
theorem chkF_more {p : Nat → Nat} {f : Nat → Bool} (hp : ∀ i, 0 < i → p i < i) : ∀ n m j, j < n → j < m → chkF p f n j = chkF p f m j := by
  intro n
  induction n with
  | zero => intro m j h; omega
  | succ n ih =>
    intro m j h1 h2
    cases m with
    | zero => omega
    | succ m =>
      by_cases h0 : j = 0
      · simp [chkF, h0]
      · have := hp j (by omega)
        simp only [chkF, if_neg h0]
        rw [ih m (p j) (by omega) (by omega)]
theorem chk_step {p : Nat → Nat} {f : Nat → Bool} (hp : ∀ i, 0 < i → p i < i) {j : Nat} (h0 : 0 < j) : chk p f j = (f j || chk p f (p j)) := by
  unfold chk
  have hj : ¬ j = 0 := by omega
  show (if j = 0 then false else f j || chkF p f j (p j)) = _
  rw [if_neg hj, chkF_more hp j (p j + 1) (p j) (hp j h0) (by omega)]
theorem chk_0 {p : Nat → Nat} {f : Nat → Bool} : chk p f 0 = false := rfl
theorem chnF_more {p : Nat → Nat} {f : Nat → Bool} (hp : ∀ i, 0 < i → p i < i) : ∀ n m j, j < n → j < m → chnF p f n j = chnF p f m j := by
  intro n
  induction n with
  | zero => intro m j h; omega
  | succ n ih =>
    intro m j h1 h2
    cases m with
    | zero => omega
    | succ m =>
      by_cases h0 : j = 0
      · simp [chnF, h0]
      · have := hp j (by omega)
        simp only [chnF, if_neg h0]
        rw [ih m (p j) (by omega) (by omega)]
theorem chn_step {p : Nat → Nat} {f : Nat → Bool} (hp : ∀ i, 0 < i → p i < i) {j : Nat} (h0 : 0 < j) : chn p f j = (if f j then 1 else 0) + chn p f (p j) := by
  unfold chn
  have hj : ¬ j = 0 := by omega
  show (if j = 0 then 0 else (if f j then 1 else 0) + chnF p f j (p j)) = _
  rw [if_neg hj, chnF_more hp j (p j + 1) (p j) (hp j h0) (by omega)]
theorem chn_0 {p : Nat → Nat} {f : Nat → Bool} : chn p f 0 = 0 := rfl
theorem chn_le {p : Nat → Nat} {f : Nat → Bool} (hp : ∀ i, 0 < i → p i < i) : ∀ j, chn p f j ≤ j := by
  intro j
  induction j using Nat.strongRecOn with
  | _ j ih =>
    by_cases h0 : j = 0
    · subst h0; exact Nat.le_refl _
    · rw [chn_step hp (by omega)]
      have h1 := hp j (by omega)
      have h2 := ih (p j) h1
      split <;> omega
/-- a reference to item j (the items' cells are ad), none for 0 -/
def rO (ad : Nat → Nat) (j : Nat) : Option Nat := if j = 0 then none else some (ad j)
/-- what the class's heap holds of item i: the item itself -/
def RI (h : jh) (S : sg) (rw : Nat) (ad : Nat → Nat) (i : Nat) : Prop :=
  jR h rw i = some (ad i) ∧ jt h (ad i) = 1 ∧ ji h 0 (ad i) = nI i ∧ ji h 1 (ad i) = nI (lv S i) ∧ ji h 2 (ad i) = nI (us S i) ∧ ji h 3 (ad i) = nI (dg S i) ∧ ji h 4 (ad i) = nI (byts (us S i) (dg S i)) ∧
  jr h 5 (ad i) = rO ad (cpa S i) ∧ jr h 6 (ad i) = rO ad (nam S i) ∧ jr h 7 (ad i) = some (ad i + 1) ∧ jt h (ad i + 1) = 4 ∧ jr h 8 (ad i) = rO ad (rc S i) ∧ ji h 9 (ad i) = nI (lb S i) ∧ ji h 11 (ad i) = nI (sy S i) ∧ ji h 12 (ad i) = nI (va S i) ∧
  ji h 13 (ad i) = vl S i ∧ jr h 15 (ad i) = rO ad (rn S i) ∧ jr h 16 (ad i) = rO ad (rm S i) ∧ jr h 17 (ad i) = rO ad (ot S i) ∧ ji h 18 (ad i) = nI (rd S i) ∧ ji h 19 (ad i) = nI (na S i) - 1
/-- .. its table -/
def RT (h : jh) (S : sg) (ad : Nat → Nat) (i : Nat) : Prop := (tb S i = 0 → jr h 10 (ad i) = none) ∧ (tb S i ≠ 0 → ∃ t, jr h 10 (ad i) = some t ∧ jt h t = 6 ∧ ji h 320 t = nI (le S i) ∧ ji h 321 t = nI (mo S i) ∧ ji h 322 t = (if tb S i = 2 then 1 else 0) ∧ ji h 323 t = nI (nw S i))
/-- .. its ranges -/
def RR (h : jh) (S : sg) (ad : Nat → Nat) (i : Nat) : Prop := (rg S i = 0 → jr h 14 (ad i) = none) ∧ (rg S i ≠ 0 → ∃ r, jr h 14 (ad i) = some r ∧ jt h r = 3 ∧ jr h 128 r = some (r + 1) ∧ jr h 129 r = some (r + 2) ∧ jt h (r + 1) = 20 ∧ jt h (r + 2) = 20 ∧ jn h (r + 1) = 8 ∧ jn h (r + 2) = 8 ∧ ji h 130 r = nI (rg S i) ∧ ∀ k, k < rg S i → jI h (r + 1) k = rf S k i ∧ jI h (r + 2) k = rt S k i)
/-- the numbers of a state are what they may be -/
def WF (S : sg) : Prop := sN S ≤ 120 ∧ (∀ i, 0 < i → pa S i < i) ∧ (∀ i, lv S i ≤ 88) ∧ (∀ i, us S i ≤ 11) ∧ (∀ i, dg S i ≤ 200) ∧ (∀ i, tb S i ≤ 2) ∧ (∀ i, mo S i ≤ 999) ∧ (∀ i, nw S i ≤ mo S i) ∧ (∀ i, le S i ≤ mo S i) ∧ (∀ i, rg S i ≤ 8) ∧ (∀ i, na S i ≤ 100) ∧ (∀ i, rc S i ≤ i) ∧ (∀ i, ot S i < i ∨ ot S i = 0) ∧ (∀ i, rn S i ≤ sN S) ∧ (∀ i, rm S i ≤ sN S) ∧ (∀ i, sy S i ≤ 1) ∧ (∀ i, va S i ≤ 1) ∧ (∀ i, rd S i ≤ 1) ∧ (∀ i, lb S i ≤ 49)
/-- the tree of the class: cell tr, row rw -/
def RTree (h : jh) (S : sg) (tr rw : Nat) (ad : Nat → Nat) : Prop := jt h tr = 7 ∧ jr h 384 tr = some rw ∧ jt h rw = 23 ∧ jn h rw = 121 ∧ ji h 385 tr = nI (sN S) ∧ WF S ∧
  (∀ i, 1 ≤ i → i ≤ sN S → RI h S rw ad i ∧ RT h S ad i ∧ RR h S ad i)
theorem cpa_lt {S : sg} (h : ∀ i, 0 < i → pa S i < i) : ∀ i, 0 < i → cpa S i < i := by
  intro i hi
  unfold cpa
  split
  · exact h i hi
  · exact hi
section Tree1
variable {h : jh} {S : sg} {tr rw : Nat} {ad : Nat → Nat}
theorem RTree.N (R : RTree h S tr rw ad) : sN S ≤ 120 := R.2.2.2.2.2.1.1
theorem RTree.pa (R : RTree h S tr rw ad) : ∀ i, 0 < i → pa S i < i := R.2.2.2.2.2.1.2.1
theorem RTree.cp (R : RTree h S tr rw ad) : ∀ i, 0 < i → cpa S i < i := cpa_lt R.pa
theorem RTree.i (R : RTree h S tr rw ad) {i : Nat} (h1 : 1 ≤ i) (h2 : i ≤ sN S) : RI h S rw ad i := (R.2.2.2.2.2.2 i h1 h2).1
theorem RTree.t (R : RTree h S tr rw ad) {i : Nat} (h1 : 1 ≤ i) (h2 : i ≤ sN S) : RT h S ad i := (R.2.2.2.2.2.2 i h1 h2).2.1
theorem RTree.r (R : RTree h S tr rw ad) {i : Nat} (h1 : 1 ≤ i) (h2 : i ≤ sN S) : RR h S ad i := (R.2.2.2.2.2.2 i h1 h2).2.2
theorem RTree.inj (R : RTree h S tr rw ad) {i j : Nat} (hi1 : 1 ≤ i) (hi2 : i ≤ sN S) (hj1 : 1 ≤ j) (hj2 : j ≤ sN S) (e : ad i = ad j) : i = j := by
  have a := (R.i hi1 hi2).2.2.1
  have b := (R.i hj1 hj2).2.2.1
  rw [e, b] at a
  have hN := R.N
  exact ((nI_eq (by omega) (by omega)).mp a).symm
theorem RTree.rO_inj (R : RTree h S tr rw ad) {i j : Nat} (hi2 : i ≤ sN S) (hj2 : j ≤ sN S) : rO ad i = rO ad j ↔ i = j := by
  constructor
  · intro e
    unfold rO at e
    by_cases hi : i = 0
    · by_cases hj : j = 0
      · omega
      · simp [hi, hj] at e
    · by_cases hj : j = 0
      · simp [hi, hj] at e
      · simp only [if_neg hi, if_neg hj] at e
        exact R.inj (by omega) hi2 (by omega) hj2 (Option.some.inj e)
  · intro e; rw [e]
theorem rO_none {j : Nat} : rO ad j = none ↔ j = 0 := by
  unfold rO
  by_cases hj : j = 0
  · simp [hj]
  · simp [hj]
theorem rO_jd {j : Nat} (hj : ¬ j = 0) : jd (rO ad j) = ad j := by
  unfold rO
  rw [if_neg hj]
  rfl
theorem rO_some {j : Nat} (hj : ¬ j = 0) : rO ad j = some (ad j) := by
  unfold rO
  rw [if_neg hj]
end Tree1
