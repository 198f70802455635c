/-! the layout as mathematics: chains, what always holds of the machine -/
def onc (S : sg) (x j : Nat) : Bool := chk (cpa S) (fun k => decide (k = j)) x
section Inv1
variable {S : sg} {U : Nat → Nat} {L : lm}
theorem onc_step (hp : ∀ i, 0 < i → cpa S i < i) {x j : Nat} (hx : 0 < x) : onc S x j = (decide (x = j) || onc S (cpa S x) j) := chk_step hp hx
theorem onc_self (hp : ∀ i, 0 < i → cpa S i < i) {x : Nat} (hx : 0 < x) : onc S x x = true := by
  rw [onc_step hp hx]; simp
theorem onc_le (hp : ∀ i, 0 < i → cpa S i < i) : ∀ x j, onc S x j = true → 1 ≤ j ∧ j ≤ x := by
  intro x
  induction x using Nat.strongRecOn with
  | _ x ih =>
    intro j h
    by_cases h0 : x = 0
    · subst h0; cases h
    · rw [onc_step hp (by omega), Bool.or_eq_true, decide_eq_true_eq] at h
      have := hp x (by omega)
      rcases h with h | h
      · omega
      · have := ih _ this j h; omega
theorem onc_trans (hp : ∀ i, 0 < i → cpa S i < i) : ∀ x y z, onc S x y = true → onc S y z = true → onc S x z = true := by
  intro x
  induction x using Nat.strongRecOn with
  | _ x ih =>
    intro y z h1 h2
    by_cases h0 : x = 0
    · subst h0; cases h1
    · have hl := hp x (by omega)
      rw [onc_step hp (by omega), Bool.or_eq_true, decide_eq_true_eq] at h1
      rcases h1 with h | h
      · rw [h]; exact h2
      · rw [onc_step hp (by omega), ih _ hl y z h h2]; simp
theorem onc_par (hp : ∀ i, 0 < i → cpa S i < i) {x j : Nat} (h : onc S x j = true) (hj : ¬ cpa S j = 0) : onc S x (cpa S j) = true := by
  have h1 := onc_le hp x j h
  refine onc_trans hp x j _ h ?_
  rw [onc_step hp (by omega), onc_self hp (by omega)]; simp
theorem onc_up (hp : ∀ i, 0 < i → cpa S i < i) {x j : Nat} (hx : 0 < x) (h : onc S (cpa S x) j = true) : onc S x j = true := by
  rw [onc_step hp hx, h]; simp
theorem onc_or (hp : ∀ i, 0 < i → cpa S i < i) {x j : Nat} (h : onc S x j = true) : j = x ∨ onc S (cpa S x) j = true := by
  have h1 := onc_le hp x j h
  rw [onc_step hp (by omega), Bool.or_eq_true, decide_eq_true_eq] at h
  rcases h with h | h
  · exact Or.inl h.symm
  · exact Or.inr h
theorem onc_no (hp : ∀ i, 0 < i → cpa S i < i) {x j : Nat} (hx : 0 < x) (h : onc S x j = false) : ¬ j = x ∧ onc S (cpa S x) j = false := by
  rw [onc_step hp hx, Bool.or_eq_false_iff, decide_eq_false_iff_not] at h
  exact ⟨fun e => h.1 e.symm, h.2⟩
theorem onc_tot (hp : ∀ i, 0 < i → cpa S i < i) : ∀ x a b, onc S x a = true → onc S x b = true → a ≤ b → onc S b a = true := by
  intro x
  induction x using Nat.strongRecOn with
  | _ x ih =>
    intro a b ha hb hab
    have la := onc_le hp x a ha
    have lb := onc_le hp x b hb
    have hl := hp x (by omega)
    rcases onc_or hp hb with h | h
    · rw [h]; exact ha
    · rcases onc_or hp ha with h2 | h2
      · have := onc_le hp _ _ h; omega
      · exact ih _ hl a b h2 h hab
theorem opn_le : ∀ i, opn S i ≤ i := by
  intro i
  induction i with
  | zero => exact Nat.le_refl _
  | succ i ih => unfold opn; split <;> omega
theorem opn_lies : ∀ i, ¬ opn S i = 0 → lies S (opn S i) = true := by
  intro i
  induction i with
  | zero => intro h; exact absurd rfl h
  | succ i ih =>
    unfold opn
    split
    · intro _; assumption
    · exact ih
theorem opn_max : ∀ i j, 1 ≤ j → j ≤ i → lies S j = true → j ≤ opn S i := by
  intro i
  induction i with
  | zero => intro j a b; omega
  | succ i ih =>
    intro j a b h
    unfold opn
    split
    · omega
    · rename_i c
      by_cases e : j = i + 1
      · rw [e] at h; exact absurd h c
      · exact ih j a (by omega) h
/-- what the layout wants of a state -/
def WB (S : sg) (U : Nat → Nat) : Prop := (∀ i, 0 < i → pa S i < i) ∧
  (∀ i, 1 ≤ i → i ≤ sN S → lies S i = true → ¬ cpa S i = 0 → lies S (cpa S i) = true ∧ us S (cpa S i) = 0 ∧ onc S (opn S (i - 1)) (cpa S i) = true) ∧
  (∀ i, 1 ≤ i → i ≤ sN S → ¬ ot S i = 0 → ot S i < i ∧ lies S (ot S i) = true ∧ cpa S (ot S i) = cpa S i ∧ ot S (ot S i) = 0 ∧ lies S i = true ∧ tb S (ot S i) = 0) ∧
  (∀ i, tabs S i ≤ 3) ∧ (∀ i, mo S i ≤ 999) ∧ (∀ i, dg S i ≤ 200) ∧
  (∀ i, 1 ≤ i → i ≤ sN S → lte S i = true → 1 ≤ fnm S (na S i) ∧ fnm S (na S i) < i ∧ lv S (fnm S (na S i)) = 1 ∧ lv S i = 1) ∧
  (∀ i, isU (U i)) ∧ (∀ i, ¬ tb S i = 0 → 1 ≤ mo S i ∧ 2 ≤ lv S i ∧ lv S i ≤ 49) ∧ (∀ i, 1 ≤ i → i ≤ sN S → (cpa S i = 0 ↔ (lv S i = 1 ∨ 49 < lv S i)))
theorem WB.p (W : WB S U) : ∀ i, 0 < i → cpa S i < i := cpa_lt W.1
theorem WB.ch (W : WB S U) {i : Nat} (h1 : 1 ≤ i) (h2 : i ≤ sN S) (hl : lies S i = true) (hc : ¬ cpa S i = 0) : lies S (cpa S i) = true ∧ us S (cpa S i) = 0 ∧ onc S (opn S (i - 1)) (cpa S i) = true := W.2.1 i h1 h2 hl hc
theorem WB.o (W : WB S U) {i : Nat} (h1 : 1 ≤ i) (h2 : i ≤ sN S) (h : ¬ ot S i = 0) : ot S i < i ∧ lies S (ot S i) = true ∧ cpa S (ot S i) = cpa S i ∧ ot S (ot S i) = 0 ∧ lies S i = true ∧ tb S (ot S i) = 0 := W.2.2.1 i h1 h2 h
theorem WB.tab (W : WB S U) (i : Nat) : tabs S i ≤ 3 := W.2.2.2.1 i
theorem WB.mx (W : WB S U) (i : Nat) : mo S i ≤ 999 := W.2.2.2.2.1 i
theorem WB.by (W : WB S U) (i : Nat) : byi S i ≤ 400 := byts_le (W.2.2.2.2.2.1 i)
theorem WB.fn (W : WB S U) {i : Nat} (h1 : 1 ≤ i) (h2 : i ≤ sN S) (h : lte S i = true) : 1 ≤ fnm S (na S i) ∧ fnm S (na S i) < i ∧ lv S (fnm S (na S i)) = 1 ∧ lv S i = 1 := W.2.2.2.2.2.2.1 i h1 h2 h
theorem WB.u (W : WB S U) (i : Nat) : isU (U i) := W.2.2.2.2.2.2.2.1 i
theorem WB.tm (W : WB S U) {i : Nat} (h : ¬ tb S i = 0) : 1 ≤ mo S i ∧ 2 ≤ lv S i ∧ lv S i ≤ 49 := W.2.2.2.2.2.2.2.2.1 i h
theorem WB.c0 (W : WB S U) {i : Nat} (h1 : 1 ≤ i) (h2 : i ≤ sN S) : cpa S i = 0 ↔ (lv S i = 1 ∨ 49 < lv S i) := W.2.2.2.2.2.2.2.2.2 i h1 h2
theorem WB.al (W : WB S U) (i : Nat) : isU (alg S U i) := by
  unfold alg
  split
  · exact Or.inl rfl
  · exact W.u i
theorem isU.le {u : Nat} (h : isU u) : 1 ≤ u ∧ u ≤ 8 := by unfold isU at h; omega
theorem rup_8 {n u : Nat} (h : isU u) : rup (rup n 8) u = rup n 8 := by
  unfold rup
  have h1 := Nat.div_add_mod (n + 8 - 1) 8
  generalize (n + 8 - 1) / 8 = q at *
  rcases h with rfl | rfl | rfl | rfl <;> omega
theorem p1000 (t : Nat) : 1000 ^ (3 - t) ≤ 1000000000 ∧ 1 ≤ 1000 ^ (3 - t) := by
  have h : ∀ k, k ≤ 3 → 1000 ^ k ≤ 1000000000 ∧ 1 ≤ 1000 ^ k := by decide
  exact h _ (by omega)
/-- i items are begun, x is the last one that isn't finished -/
def INV (S : sg) (U : Nat → Nat) (i x : Nat) (L : lm) : Prop :=
  (∀ j, 1 ≤ j → j ≤ i → lies S j = true → L 6 j = 1 ∧ L 0 j + byi S j ≤ L 1 j ∧ (¬ us S j = 0 → L 1 j = L 0 j + byi S j) ∧ (¬ cpa S j = 0 → ot S j = 0 → L 0 (cpa S j) ≤ L 0 j)) ∧
  (∀ j, 1 ≤ j → j ≤ i → lies S j = true → onc S x j = false → L 5 j = 1 ∧ (¬ tb S j = 0 → L 2 j = str U L j) ∧ (¬ cpa S j = 0 → ot S j = 0 → L 0 j + exf S U L j ≤ L 1 (cpa S j)) ∧ (cpa S j = 0 → L 0 j + exf S U L j ≤ L 4 0)) ∧
  (∀ j, onc S x j = true → ¬ cpa S j = 0 → ot S j = 0 → L 1 (cpa S j) ≤ L 0 j ∧ L 0 j + 1 ≤ L 0 (cpa S j) + 512 * (j - cpa S j) * 1000 ^ (3 - tabs S (cpa S j))) ∧
  (∀ a c, 1 ≤ a → a < c → c ≤ i → lies S a = true → lies S c = true → cpa S a = cpa S c → (¬ cpa S c = 0 ∧ ot S a = 0 ∧ ot S c = 0) ∨ (cpa S c = 0 ∧ ot S c = 0 ∧ lte S c = false) → L 0 a + exf S U L a ≤ L 0 c) ∧
  (∀ j k, onc S x j = true → j < k → k ≤ i → lies S k = true → bel S k j = true) ∧
  (∀ j, 1 ≤ j → j ≤ i → lies S j = true → L 0 j + 1 ≤ 512 * j * 1000000000) ∧
  (∀ j, onc S x j = true → L 1 j + 8 ≤ L 0 j + 512 * (i + 1 - j) * 1000 ^ (3 - tabs S j)) ∧ L 4 0 + 9 ≤ 512 * (i + 1) * 1000000000 ∧ x ≤ i ∧ ∀ j, onc S x j = true → lies S j = true
theorem INV.zero : INV S U 0 0 (fun _ _ => 0) := by
  refine ⟨fun j a b => by omega, fun j a b => by omega, fun j h => (by cases h), fun a c x y z => by omega, fun j k h => (by cases h), fun j a b => by omega, fun j h => (by cases h), ?_, Nat.le_refl _, fun j h => (by cases h)⟩
  show 0 + 9 ≤ _
  omega
theorem INV.skip {i x : Nat} (I : INV S U i x L) (hl : lies S (i + 1) = false) : INV S U (i + 1) x L := by
  obtain ⟨c1, c2, c3, c4, c5, c6, c7, c8, c9, c10⟩ := I
  have ne : ∀ j, j ≤ i + 1 → lies S j = true → j ≤ i := fun j a b => by
    by_cases e : j = i + 1
    · rw [e, hl] at b; cases b
    · omega
  refine ⟨fun j a b h => c1 j a (ne j b h) h, fun j a b h => c2 j a (ne j b h) h, c3, fun a c x y z h1 h2 => c4 a c x y (ne c z h2) h1 h2, fun j k h1 h2 h3 h4 => c5 j k h1 h2 (ne k h3 h4) h4, fun j a b h => c6 j a (ne j b h) h, fun j h => ?_, ?_, by omega, c10⟩
  · have := c7 j h
    have m : 512 * (i + 1 - j) * 1000 ^ (3 - tabs S j) ≤ 512 * (i + 1 + 1 - j) * 1000 ^ (3 - tabs S j) := Nat.mul_le_mul_right _ (by omega)
    omega
  · exact Nat.le_trans c8 (by omega)
theorem tabs_step (hp : ∀ i, 0 < i → cpa S i < i) {j : Nat} (hj : 0 < j) : tabs S j = (if ¬ tb S j = 0 then 1 else 0) + tabs S (cpa S j) := by
  unfold tabs
  rw [chn_step hp hj]
  by_cases h : tb S j = 0 <;> simp [h]
theorem exf_le (W : WB S U) {i x : Nat} (I : INV S U i x L) (hx : 0 < x) : exf S U L x + 8 ≤ 512 * (i + 1 - x) * 1000 ^ (3 - tabs S (cpa S x)) := by
  obtain ⟨c1, c2, c3, c4, c5, c6, c7, c8, c9, c10⟩ := I
  have hs := onc_self W.p hx
  have h1 := c7 x hs
  have h2 := (c1 x hx c9 (c10 x hs)).2.1
  have ht := tabs_step W.p hx
  unfold exf
  by_cases hb : tb S x = 0
  · rw [if_pos hb]
    rw [if_neg (by omega)] at ht
    rw [ht, Nat.zero_add] at h1
    omega
  · rw [if_neg hb]
    rw [if_pos hb] at ht
    have h3 := W.tab x
    have h4 := W.mx x
    have e : 3 - tabs S (cpa S x) = (3 - tabs S x) + 1 := by omega
    rw [e, Nat.pow_succ]
    generalize 1000 ^ (3 - tabs S x) = B at *
    have h5 := (rup_ge (n := L 1 x - L 0 x) (u := U x) (W.u x).le.1).2
    have h6 := (W.u x).le.2
    have h7 : mo S x * str U L x ≤ 999 * (L 1 x - L 0 x + 7) := Nat.mul_le_mul h4 (by unfold str; omega)
    have e2 : 512 * (i + 1 - x) * (B * 1000) = 1000 * (512 * (i + 1 - x) * B) := by rw [← Nat.mul_assoc, Nat.mul_comm]
    rw [e2]
    omega
theorem fin_0 (i : Nat) (j : Nat) : fin S U i L 0 j = L 0 j := by unfold fin; simp
theorem fin_1 (i : Nat) (j : Nat) : fin S U i L 1 j = if j = cpa S i ∧ ¬ cpa S i = 0 ∧ ot S i = 0 then L 0 i + exf S U L i else L 1 j := by unfold fin; simp
theorem fin_2 (i : Nat) (j : Nat) : fin S U i L 2 j = if j = i then (if tb S i = 0 then L 2 i else str U L i) else L 2 j := by unfold fin; simp
theorem fin_3 (i : Nat) (j : Nat) : fin S U i L 3 j = L 3 j := by unfold fin; simp
theorem fin_4 (i : Nat) : fin S U i L 4 0 = if cpa S i = 0 then max (L 4 0) (L 0 i + exf S U L i) else L 4 0 := by unfold fin; simp
theorem fin_5 (i : Nat) (j : Nat) : fin S U i L 5 j = if j = i then 1 else L 5 j := by unfold fin; simp
theorem fin_6 (i : Nat) (j : Nat) : fin S U i L 6 j = L 6 j := by unfold fin; simp
theorem exf_same {L' : lm} {j : Nat} (h0 : L' 0 j = L 0 j) (h1 : L' 1 j = L 1 j) : exf S U L' j = exf S U L j ∧ str U L' j = str U L j := by
  have e : str U L' j = str U L j := by unfold str; rw [h0, h1]
  refine ⟨?_, e⟩
  unfold exf
  rw [e, h0, h1]
theorem INV.fok (W : WB S U) {i x : Nat} (I : INV S U i x L) (hx : 0 < x) (hi : i ≤ sN S) (hN : sN S ≤ 120) : FOK S U L x := by
  have hs := onc_self W.p hx
  have he := exf_le W I hx
  obtain ⟨c1, c2, c3, c4, c5, c6, c7, c8, c9, c10⟩ := I
  obtain ⟨d1, d2, -, -⟩ := c1 x hx c9 (c10 x hs)
  have h6 := c6 x hx c9 (c10 x hs)
  have hp := p1000 (tabs S (cpa S x))
  have hm : 512 * (i + 1 - x) * 1000 ^ (3 - tabs S (cpa S x)) ≤ 512 * (i + 1 - x) * 1000000000 := Nat.mul_le_mul_left _ hp.1
  refine ⟨d1, by omega, fun hc => ?_, by omega, by omega, fun hc ho => ?_⟩
  · have q := onc_par W.p hs hc
    have := onc_le W.p x _ q
    exact (c1 _ this.1 (by omega) (c10 _ q)).1
  · have := (c3 x hs hc ho).1
    omega
theorem INV.cl (W : WB S U) {i x : Nat} (I : INV S U i x L) (hx : 0 < x) (hi : i ≤ sN S) : INV S U i (cpa S x) (fin S U x L) := by
  have hs := onc_self W.p hx
  have he := exf_le W I hx
  obtain ⟨c1, c2, c3, c4, c5, c6, c7, c8, c9, c10⟩ := I
  have lx := c10 x hs
  have hcl := W.p x hx
  obtain ⟨d1, d2, d3, d4⟩ := c1 x hx c9 lx
  -- the only end that changes is that of what is around
  have k1 : ∀ j, (j = cpa S x ∧ ¬ cpa S x = 0 ∧ ot S x = 0 ∧ fin S U x L 1 j = L 0 x + exf S U L x ∧ L 1 j ≤ L 0 x) ∨ fin S U x L 1 j = L 1 j := by
    intro j
    rw [fin_1]
    by_cases q : j = cpa S x ∧ ¬ cpa S x = 0 ∧ ot S x = 0
    · left
      refine ⟨q.1, q.2.1, q.2.2, if_pos q, ?_⟩
      rw [q.1]
      exact (c3 x hs q.2.1 q.2.2).1
    · right; exact if_neg q
  have ge1 : ∀ j, L 1 j ≤ fin S U x L 1 j := fun j => by rcases k1 j with q | q <;> omega
  have same : ∀ j, onc S x j = false ∨ j = x → exf S U (fin S U x L) j = exf S U L j ∧ str U (fin S U x L) j = str U L j := by
    intro j hj
    refine exf_same (fin_0 _ _) ?_
    rcases k1 j with ⟨q1, q2, q3, q4, q5⟩ | q
    · exfalso
      rcases hj with h | h
      · rw [q1, onc_par W.p hs q2] at h; cases h
      · omega
    · exact q
  have up : ∀ j, onc S (cpa S x) j = true → onc S x j = true := fun j h => onc_up W.p hx h
  refine ⟨fun j a b h => ?_, fun j a b h hn => ?_, fun j h hc ho => ?_, fun a c h1 h2 h3 h4 h5 h6 h7 => ?_, fun j k h h1 h2 h3 => c5 j k (up j h) h1 h2 h3, fun j a b h => ?_, fun j h => ?_, ?_, by omega, fun j h => c10 j (up j h)⟩
  · obtain ⟨e1, e2, e3, e4⟩ := c1 j a b h
    rw [fin_6, fin_0, fin_0]
    refine ⟨e1, by have := ge1 j; omega, fun hu => ?_, e4⟩
    rcases k1 j with ⟨q1, q2, q3, q4, q5⟩ | q
    · exact absurd (W.ch hx (by omega) lx q2).2.1 (by rw [← q1]; exact hu)
    · rw [q]; exact e3 hu
  · rw [fin_5, fin_2, fin_0]
    by_cases e : j = x
    · rw [if_pos e, if_pos e, e, (same x (Or.inr rfl)).1, (same x (Or.inr rfl)).2]
      refine ⟨rfl, fun ht => by rw [if_neg ht], fun hc ho => ?_, fun hc => ?_⟩
      · rw [fin_1, if_pos ⟨rfl, hc, ho⟩]; exact Nat.le_refl _
      · rw [fin_4, if_pos hc]; exact Nat.le_max_right _ _
    · have nx : onc S x j = false := by
        cases hq : onc S x j with
        | false => rfl
        | true =>
          rcases onc_or W.p hq with q | q
          · exact absurd q e
          · rw [q] at hn; cases hn
      obtain ⟨e1, e2, e3, e4⟩ := c2 j a b h nx
      rw [if_neg e, if_neg e, (same j (Or.inl nx)).1, (same j (Or.inl nx)).2]
      refine ⟨e1, e2, fun hc ho => Nat.le_trans (e3 hc ho) (ge1 _), fun hc => ?_⟩
      rw [fin_4]
      have := e4 hc
      split
      · exact Nat.le_trans this (Nat.le_max_left _ _)
      · exact this
  · have hx' := up j h
    obtain ⟨e1, e2⟩ := c3 j hx' hc ho
    rw [fin_0, fin_0]
    refine ⟨?_, e2⟩
    rcases k1 (cpa S j) with ⟨q1, q2, q3, q4, q5⟩ | q
    · -- two children of one on the chain
      have lj := onc_le W.p _ _ h
      have := W.p j (by omega)
      omega
    · rw [q]; exact e1
  · rw [fin_0, fin_0]
    have na' : onc S x a = false := by
      cases hq : onc S x a with
      | false => rfl
      | true =>
        have hb : onc S (cpa S c) a = true := c5 a c hq h2 h3 h5
        have := onc_le W.p _ _ hb
        have := W.p a h1
        omega
    rw [(same a (Or.inl na')).1]
    exact c4 a c h1 h2 h3 h4 h5 h6 h7
  · rw [fin_0]; exact c6 j a b h
  · rw [fin_0]
    have h7 := c7 j (up j h)
    rcases k1 j with ⟨q1, q2, q3, q4, q5⟩ | q
    · rw [q4, q1]
      have e2 := (c3 x hs q2 q3).2
      have e3 : 512 * (i + 1 - cpa S x) * 1000 ^ (3 - tabs S (cpa S x)) = 512 * (x - cpa S x) * 1000 ^ (3 - tabs S (cpa S x)) + 512 * (i + 1 - x) * 1000 ^ (3 - tabs S (cpa S x)) := by
        rw [← Nat.add_mul, ← Nat.mul_add]
        congr 2; omega
      omega
    · rw [q]; exact h7
  · rw [fin_4]
    split
    · rename_i hc
      have e2 := c6 x hx c9 lx
      rw [hc] at he
      have e0 : 1000 ^ (3 - tabs S 0) = 1000000000 := rfl
      rw [e0] at he
      have e3 : 512 * (i + 1) * 1000000000 = 512 * x * 1000000000 + 512 * (i + 1 - x) * 1000000000 := by
        rw [← Nat.add_mul, ← Nat.mul_add]
        congr 2; omega
      have : max (L 4 0) (L 0 x + exf S U L x) = L 4 0 ∨ max (L 4 0) (L 0 x + exf S U L x) = L 0 x + exf S U L x := by omega
      rcases this with q | q <;> rw [q] <;> omega
    · exact c8
end Inv1
