/-! which item isn't right: both tell the same one -/
def lstf (S : sg) (i k : Nat) : Bool := decide (rc S k = rc S i → lies S k = true → bel S k i = true)
def lst (S : sg) (i : Nat) : Bool := rall (lstf S i) (i + 1) (sN S - i)
def rptf (S : sg) (c k : Nat) : Bool := decide ((k ≤ c ∨ bel S k c = true) → tabs S k = 0)
def rpt (S : sg) (a c : Nat) : Bool := decide (¬ a = 0 ∧ ¬ c = 0 ∧ aside S a = false ∧ aside S c = false ∧ rall (rptf S c) a (sN S + 1 - a) = true)
/-- the bytes of all entries -/
def xtn (S : sg) (L : lm) (i : Nat) : Nat := if tb S i = 0 then L 1 i - L 0 i else mo S i * L 2 i
def rgt (S : sg) (U : Nat → Nat) (b : Bool) (L : lm) (i : Nat) : Bool := if lv S i = 88 then decide (¬ rg S i = 0) else if lv S i = 66 then rpt S (rn S i) (rm S i) else
  decide (¬ (us S i = 0 ∧ lb S i = 0) ∧ (tb S i = 2 → lst S i = true) ∧ (¬ ot S i = 0 → (if b = true then L 0 i = L 0 (ot S i) else rup (L 0 i) (alg S U i) = L 0 i) ∧ (lv S i = 1 ∨ xtn S L i ≤ xtn S L (ot S i))) ∧ (¬ na S i = 0 → L 1 (fnm S (na S i)) - L 0 (fnm S (na S i)) = L 1 i - L 0 i))
def fwr (S : sg) (U : Nat → Nat) (b : Bool) : Nat := fstU (fun i => ! rgt S U b (mfin S U b) i) 1 (sN S)
section Wr1
variable {S : sg} {U : Nat → Nat} {L : lm} {b : Bool}
theorem pl_o (W : WB S U) {i : Nat} (h1 : 1 ≤ i) (h2 : i ≤ sN S) (ho : ¬ ot S i = 0) : mfin S U false 0 i = mfin S U false 0 (ot S i) ∧ mfin S U true 0 i = rup (mfin S U true 0 (ot S i)) (alg S U i) := by
  obtain ⟨o1, o2, o3, o4, o5, -⟩ := W.o h1 h2 ho
  obtain ⟨k, rfl⟩ : ∃ k, i = k + 1 := ⟨i - 1, by omega⟩
  have key : ∀ b, mfin S U b 0 (k + 1) = plc S U b (fup S U (opn S k) (cpa S (k + 1)) (mst S U b k)) (k + 1) ∧ bhd S (fup S U (opn S k) (cpa S (k + 1)) (mst S U b k)) (k + 1) = mfin S U b 0 (ot S (k + 1)) := by
    intro b
    constructor
    · rw [mfin_at W.p (Or.inl rfl) (Nat.le_refl _) h2, mst_succ, if_pos o5, beg_0, if_pos rfl]
    · rw [bhd_o ho, fup_at W.p (Or.inl rfl)]
      exact (mfin_at W.p (Or.inl rfl) (by omega) (by omega)).symm
  constructor
  · rw [(key false).1, ← (key false).2]
    unfold plc
    rw [if_pos ⟨rfl, Or.inl ho⟩]
  · rw [(key true).1, ← (key true).2]
    unfold plc
    rw [if_neg (fun q => by cases q.1)]
theorem tnt_of (hp : ∀ i, 0 < i → cpa S i < i) : ∀ j, (∀ m, 1 ≤ m → m ≤ j → mis S U m = false) → tnt S U j = false := by
  intro j
  induction j using Nat.strongRecOn with
  | _ j ih =>
    intro h
    by_cases h0 : j = 0
    · subst h0; rfl
    · have := hp j (by omega)
      rw [tnt_step hp (by omega), h j (by omega) (Nat.le_refl _), ih _ this (fun m a c => h m a (by omega))]
      rfl
theorem mis_wrong (W : WB S U) {k : Nat} (h1 : 1 ≤ k) (h2 : k ≤ sN S) (hm : mis S U k = true) (hs : ∀ m, 1 ≤ m → m < k → mis S U m = false) : rgt S U true (mfin S U true) k = false ∧ rgt S U false (mfin S U false) k = false := by
  obtain ⟨q1, q2, q3⟩ := of_decide_eq_true hm
  obtain ⟨o1, o2, o3, o4, o5, -⟩ := W.o h1 h2 q1
  obtain ⟨p1, p2⟩ := pl_o W h1 h2 q1
  have hlv : ¬ lv S k = 88 ∧ ¬ lv S k = 66 := by
    unfold lies at o5
    rw [Bool.or_eq_true, decide_eq_true_eq, decide_eq_true_eq] at o5
    omega
  have to' : tnt S U (ot S k) = false := tnt_of W.p _ (fun m a c => hs m a (by omega))
  have e := SR.mf W 0 _ to'
  unfold rgt
  rw [if_neg hlv.1, if_neg hlv.2, if_neg hlv.1, if_neg hlv.2]
  constructor
  · apply decide_eq_false
    intro z
    have := (z.2.2.1 q1).1
    rw [if_pos rfl, p2, e] at this
    exact q3 this
  · apply decide_eq_false
    intro z
    have := (z.2.2.1 q1).1
    rw [if_neg (by decide), p1] at this
    exact q3 this
theorem tnt_rec (hp : ∀ i, 0 < i → cpa S i < i) {j : Nat} (hj : 0 < j) (hc : cpa S j = 0) : tnt S U j = false := by
  rw [tnt_step hp hj, hc]
  have : mis S U j = false := decide_eq_false (fun q => q.2.1 hc)
  rw [this]; rfl
theorem rgt_eq (W : WB S U) {i : Nat} (h1 : 1 ≤ i) (h2 : i ≤ sN S) (ht : tnt S U i = false) : rgt S U true (mfin S U true) i = rgt S U false (mfin S U false) i := by
  have M := SR.mf W
  have ht' := ht
  rw [tnt_step W.p (by omega), Bool.or_eq_false_iff] at ht
  unfold rgt
  by_cases h88 : lv S i = 88
  · rw [if_pos h88, if_pos h88]
  · rw [if_neg h88, if_neg h88]
    by_cases h66 : lv S i = 66
    · rw [if_pos h66, if_pos h66]
    · rw [if_neg h66, if_neg h66]
      have xt : ∀ j, tnt S U j = false → xtn S (mfin S U true) j = xtn S (mfin S U false) j := fun j h => by
        unfold xtn
        rw [M 1 j h, M 0 j h, M 2 j h]
      have e1 : (¬ ot S i = 0 → (if true = true then mfin S U true 0 i = mfin S U true 0 (ot S i) else rup (mfin S U true 0 i) (alg S U i) = mfin S U true 0 i) ∧ (lv S i = 1 ∨ xtn S (mfin S U true) i ≤ xtn S (mfin S U true) (ot S i))) ↔ (¬ ot S i = 0 → (if false = true then mfin S U false 0 i = mfin S U false 0 (ot S i) else rup (mfin S U false 0 i) (alg S U i) = mfin S U false 0 i) ∧ (lv S i = 1 ∨ xtn S (mfin S U false) i ≤ xtn S (mfin S U false) (ot S i))) := by
        by_cases ho : ot S i = 0
        · exact ⟨fun _ q => absurd ho q, fun _ q => absurd ho q⟩
        · obtain ⟨o1, o2, o3, o4, o5, -⟩ := W.o h1 h2 ho
          obtain ⟨p1, p2⟩ := pl_o W h1 h2 ho
          have to' : tnt S U (ot S i) = false := by
            rw [tnt_step W.p (by omega), o3, ht.2]
            have : mis S U (ot S i) = false := decide_eq_false (fun q => q.1 o4)
            rw [this]; rfl
          rw [if_pos rfl, if_neg (by decide), xt i ht', xt _ to', M 0 i ht', M 0 _ to', p1]
          have : rup (mfin S U false 0 (ot S i)) (alg S U i) = mfin S U false 0 (ot S i) := by
            rw [← M 0 _ to', ← p2, M 0 i ht', p1, M 0 _ to']
          simp [this]
      have e2 : (¬ na S i = 0 → mfin S U true 1 (fnm S (na S i)) - mfin S U true 0 (fnm S (na S i)) = mfin S U true 1 i - mfin S U true 0 i) ↔ (¬ na S i = 0 → mfin S U false 1 (fnm S (na S i)) - mfin S U false 0 (fnm S (na S i)) = mfin S U false 1 i - mfin S U false 0 i) := by
        by_cases hn : na S i = 0
        · exact ⟨fun _ q => absurd hn q, fun _ q => absurd hn q⟩
        · have tf : tnt S U (fnm S (na S i)) = false := by
            by_cases he : fnm S (na S i) = i
            · rw [he]; exact ht'
            · obtain ⟨f1, f2, f3, f4⟩ := W.fn h1 h2 (decide_eq_true ⟨hn, he⟩)
              exact tnt_rec W.p (by omega) ((W.c0 f1 (by omega)).mpr (Or.inl f3))
          rw [M 1 i ht', M 0 i ht', M 1 _ tf, M 0 _ tf]
      exact decide_eq_decide.mpr (by rw [e1, e2])
theorem fstU_congr {f g : Nat → Bool} : ∀ n lo, (∀ i, lo ≤ i → i < lo + n → (∀ j, lo ≤ j → j < i → f j = false ∧ g j = false) → f i = g i) → fstU f lo n = fstU g lo n := by
  intro n
  induction n with
  | zero => intro lo _; rfl
  | succ n ih =>
    intro lo h
    have h0 := h lo (Nat.le_refl _) (by omega) (fun j a c => by omega)
    unfold fstU
    rw [h0]
    split
    · rfl
    · rename_i c
      have c' : g lo = false := by simpa using c
      refine ih (lo + 1) (fun i a c2 hj => h i (by omega) (by omega) (fun j a3 c3 => ?_))
      by_cases e : j = lo
      · rw [e, h0]; exact ⟨c', c'⟩
      · exact hj j (by omega) c3
theorem fstU_0 {f : Nat → Bool} : ∀ n lo, 1 ≤ lo → (fstU f lo n = 0 ↔ ∀ i, lo ≤ i → i < lo + n → f i = false) := by
  intro n
  induction n with
  | zero => intro lo _; exact ⟨fun _ i a c => by omega, fun _ => rfl⟩
  | succ n ih =>
    intro lo hlo
    unfold fstU
    cases h : f lo with
    | true =>
      rw [if_pos rfl]
      refine ⟨fun q => by omega, fun q => ?_⟩
      have := q lo (Nat.le_refl _) (by omega)
      rw [h] at this; cases this
    | false =>
      rw [if_neg (by decide), ih (lo + 1) (by omega)]
      refine ⟨fun q i a c => ?_, fun q i a c => q i (by omega) (by omega)⟩
      by_cases e : i = lo
      · rw [e]; exact h
      · exact q i (by omega) (by omega)
theorem mis_none (W : WB S U) {n : Nat} (hn : n ≤ sN S) (h : ∀ j, 1 ≤ j → j ≤ n → rgt S U true (mfin S U true) j = true) : ∀ k, 1 ≤ k → k ≤ n → mis S U k = false := by
  intro k
  induction k using Nat.strongRecOn with
  | _ k ih =>
    intro a c
    cases hm : mis S U k with
    | false => rfl
    | true =>
      have := (mis_wrong W a (by omega) hm (fun m a2 c2 => ih m c2 a2 (by omega))).1
      rw [h k a c] at this; cases this
theorem fwr_eq (W : WB S U) : fwr S U true = fwr S U false := by
  refine fstU_congr _ _ (fun i a c hj => ?_)
  show (! _) = (! _)
  have hr : ∀ j, 1 ≤ j → j ≤ i - 1 → rgt S U true (mfin S U true) j = true := fun j a2 c2 => by
    have := (hj j a2 (by omega)).1
    simpa using this
  have nm := mis_none W (n := i - 1) (by omega) hr
  cases hm : mis S U i with
  | true =>
    have := mis_wrong W a (by omega) hm (fun m a2 c2 => nm m a2 (by omega))
    rw [this.1, this.2]
  | false =>
    rw [rgt_eq W a (by omega) (tnt_of W.p i (fun m a2 c2 => ?_))]
    by_cases e : m = i
    · rw [e]; exact hm
    · exact nm m a2 (by omega)
theorem fwr_ok (W : WB S U) (h : fwr S U true = 0) : ∀ a j, j ≤ sN S → mfin S U true a j = mfin S U false a j := by
  have h' := (fstU_0 _ _ (Nat.le_refl _)).mp h
  have nm := mis_none W (n := sN S) (Nat.le_refl _) (fun j a c => by have := h' j a (by omega); simpa using this)
  exact fun a j hj => SR.mf W a j (tnt_of W.p j (fun m a2 c2 => nm m a2 (by omega)))
theorem fwr_rgt (h : fwr S U b = 0) {j : Nat} (h1 : 1 ≤ j) (h2 : j ≤ sN S) : rgt S U b (mfin S U b) j = true := by
  have := (fstU_0 _ _ (Nat.le_refl _)).mp h j h1 (by omega)
  simpa using this
end Wr1
