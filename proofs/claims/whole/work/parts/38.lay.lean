/-! the layout as mathematics (both sides): a machine over numbers -/
abbrev lm : Type := Nat → Nat → Nat
/-- to the next number that u divides -/
def rup (n u : Nat) : Nat := (n + u - 1) / u * u
/-- the first of lo .. lo + n - 1 with f; 0: none -/
def fstU (f : Nat → Bool) : Nat → Nat → Nat
  | _, 0 => 0
  | lo, n + 1 => if f lo then lo else fstU f (lo + 1) n
/-- the first item of a name (told as number + 1) -/
def fnm (S : sg) (v : Nat) : Nat := fstU (fun j => decide (na S j = v)) 1 (sN S)
def lte (S : sg) (i : Nat) : Bool := decide (¬ na S i = 0 ∧ ¬ fnm S (na S i) = i)
/-- its bytes are first set through another item -/
def lent (S : sg) (i : Nat) : Bool := chk (cpa S) (fun k => decide (¬ ot S k = 0) || (decide (cpa S k = 0) && lte S k)) i
def alg (S : sg) (U : Nat → Nat) (i : Nat) : Nat := if sy S i = 0 ∧ tb S i = 0 then 1 else U i
/-- state of the machine: 0 place, 1 end, 2 stride, 3 slack, 4 end of all (at 0), 5 finished, 6 begun -/
def bhd (S : sg) (L : lm) (i : Nat) : Nat := if ¬ ot S i = 0 then L 0 (ot S i) else if ¬ cpa S i = 0 then L 1 (cpa S i) else if lte S i = true then L 0 (fnm S (na S i)) else rup (L 4 0) 8
/-- b: the class (it rounds everywhere); not b: the reference -/
def plc (S : sg) (U : Nat → Nat) (b : Bool) (L : lm) (i : Nat) : Nat := if b = false ∧ (¬ ot S i = 0 ∨ cpa S i = 0) then bhd S L i else rup (bhd S L i) (alg S U i)
def byi (S : sg) (i : Nat) : Nat := byts (us S i) (dg S i)
def beg (S : sg) (U : Nat → Nat) (b : Bool) (i : Nat) (L : lm) : lm := fun a j => if a = 0 ∧ j = i then plc S U b L i else if a = 1 ∧ j = i then plc S U b L i + byi S i else if a = 3 ∧ j = i then plc S U b L i - bhd S L i else if a = 6 ∧ j = i then 1 else L a j
def str (U : Nat → Nat) (L : lm) (i : Nat) : Nat := rup (L 1 i - L 0 i) (U i)
/-- how far an item reaches, as it is finished -/
def exf (S : sg) (U : Nat → Nat) (L : lm) (i : Nat) : Nat := if tb S i = 0 then L 1 i - L 0 i else mo S i * str U L i
def fin (S : sg) (U : Nat → Nat) (i : Nat) (L : lm) : lm := fun a j => if a = 2 ∧ j = i then (if tb S i = 0 then L 2 i else str U L i) else if a = 5 ∧ j = i then 1 else if a = 4 ∧ j = 0 then (if cpa S i = 0 then max (L 4 0) (L 0 i + exf S U L i) else L 4 0) else if a = 1 ∧ j = cpa S i ∧ ¬ cpa S i = 0 ∧ ot S i = 0 then L 0 i + exf S U L i else L a j
/-- finish from open up to last (not that) -/
def fupF (S : sg) (U : Nat → Nat) (last : Nat) : Nat → Nat → lm → lm
  | 0, _, L => L
  | f + 1, x, L => if x = 0 ∨ x = last then L else fupF S U last f (cpa S x) (fin S U x L)
def fup (S : sg) (U : Nat → Nat) (o last : Nat) (L : lm) : lm := fupF S U last (o + 1) o L
/-- the last item up to i that lies -/
def opn (S : sg) : Nat → Nat
  | 0 => 0
  | i + 1 => if lies S (i + 1) = true then i + 1 else opn S i
def mst (S : sg) (U : Nat → Nat) (b : Bool) : Nat → lm
  | 0 => fun _ _ => 0
  | i + 1 => if lies S (i + 1) = true then beg S U b (i + 1) (fup S U (opn S i) (cpa S (i + 1)) (mst S U b i)) else mst S U b i
def mfin (S : sg) (U : Nat → Nat) (b : Bool) : lm := fup S U (opn S (sN S)) 0 (mst S U b (sN S))
/-- units: from item i down to 1 -/
def gus (S : sg) (i : Nat) (U : Nat → Nat) : Nat → Nat := fun j => if j = cpa S i ∧ ¬ cpa S i = 0 then max (U j) (if sy S i = 0 then U i else byi S i) else if j = i ∧ ¬ sy S i = 0 then byi S i else U j
def guF (S : sg) : Nat → (Nat → Nat) → Nat → Nat
  | 0, U => U
  | i + 1, U => guF S i (gus S (i + 1) U)
def gU (S : sg) : Nat → Nat := guF S (sN S) (fun _ => 1)
theorem fupF_more {S : sg} {U : Nat → Nat} {last : Nat} (hp : ∀ i, 0 < i → cpa S i < i) : ∀ n m x L, x < n → x < m → fupF S U last n x L = fupF S U last m x L := by
  intro n
  induction n with
  | zero => intro m x L h; omega
  | succ n ih =>
    intro m x L h1 h2
    cases m with
    | zero => omega
    | succ m =>
      by_cases h0 : x = 0 ∨ x = last
      · simp only [fupF, if_pos h0]
      · have := hp x (by omega)
        simp only [fupF, if_neg h0]
        exact ih m (cpa S x) _ (by omega) (by omega)
theorem fup_0 {S : sg} {U : Nat → Nat} {x last : Nat} {L : lm} (h0 : x = 0 ∨ x = last) : fup S U x last L = L := by
  unfold fup
  simp only [fupF, if_pos h0]
theorem fup_step {S : sg} {U : Nat → Nat} (hp : ∀ i, 0 < i → cpa S i < i) {x last : Nat} {L : lm} (h0 : ¬ (x = 0 ∨ x = last)) : fup S U x last L = fup S U (cpa S x) last (fin S U x L) := by
  unfold fup
  have := hp x (by omega)
  show (if x = 0 ∨ x = last then L else fupF S U last x (cpa S x) (fin S U x L)) = _
  rw [if_neg h0]
  exact fupF_more hp _ _ _ _ this (by omega)
theorem nI_toInt64 {u : Nat} (h : u < 2 ^ 31) : (nI u).toInt64 = nL u := by
  rw [← Int64.toInt_inj, Int32.toInt_toInt64, nI_toInt h, nL_toInt (by omega)]
theorem nL_sub {a b : Nat} (h : b ≤ a) : nL a - nL b = nL (a - b) := by
  have e : nL a = nL (a - b) + nL b := by rw [nL_add]; congr 1; omega
  rw [e, Int64.add_sub_cancel]
theorem bit_neg {k : Nat} (hk : k < 4) : ∀ i, i < 64 → (-(BitVec.ofNat 64 (2 ^ k))).getLsbD i = decide (k ≤ i) := by
  have : ∀ k, k < 4 → ∀ i, i < 64 → (-(BitVec.ofNat 64 (2 ^ k))).getLsbD i = decide (k ≤ i) := by decide +kernel
  exact this k hk
theorem and_neg {k : Nat} (hk : k < 4) (m : Nat) : nL m &&& -(nL (2 ^ k)) = nL (m / 2 ^ k * 2 ^ k) := by
  apply Int64.toBitVec_inj.mp
  show BitVec.ofNat 64 m &&& -(BitVec.ofNat 64 (2 ^ k)) = BitVec.ofNat 64 (m / 2 ^ k * 2 ^ k)
  apply BitVec.eq_of_getLsbD_eq
  intro i hi
  rw [BitVec.getLsbD_and, bit_neg hk i hi, BitVec.getLsbD_ofNat, BitVec.getLsbD_ofNat]
  have e : m / 2 ^ k * 2 ^ k = (m >>> k) <<< k := by rw [Nat.shiftRight_eq_div_pow, Nat.shiftLeft_eq]
  rw [e, Nat.testBit_shiftLeft, Nat.testBit_shiftRight]
  by_cases h : k ≤ i
  · have : k + (i - k) = i := by omega
    simp [h, hi, this]
  · simp [h, hi]
def isU (u : Nat) : Prop := u = 1 ∨ u = 2 ∨ u = 4 ∨ u = 8
theorem rup_L {n u : Nat} (hu : isU u) : ((nL n + (nI u).toInt64) - 1) &&& (-(nI u).toInt64) = nL (rup n u) := by
  have hp : ∃ k, k < 4 ∧ u = 2 ^ k := by
    rcases hu with rfl | rfl | rfl | rfl
    · exact ⟨0, by decide, rfl⟩
    · exact ⟨1, by decide, rfl⟩
    · exact ⟨2, by decide, rfl⟩
    · exact ⟨3, by decide, rfl⟩
  have hu8 : 1 ≤ u ∧ u ≤ 8 := by unfold isU at hu; omega
  rw [nI_toInt64 (by omega), nL_add, show (1 : Int64) = nL 1 from rfl, nL_sub (by omega)]
  obtain ⟨k, hk, rfl⟩ := hp
  rw [and_neg hk]
  rfl
