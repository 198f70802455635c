/-! the class's layout and the reference's: where they differ, both tell an item wrong -/
section Sim1
variable {S : sg} {U : Nat → Nat} {L : lm} {b : Bool}
theorem fup_at (hp : ∀ i, 0 < i → cpa S i < i) {a : Nat} (ha : a = 0 ∨ a = 3 ∨ a = 6) (last j : Nat) : ∀ x L, fup S U x last L a j = L a j := by
  intro x
  induction x using Nat.strongRecOn with
  | _ x ih =>
    intro L
    by_cases h0 : x = 0 ∨ x = last
    · rw [fup_0 h0]
    · rw [fup_step hp h0, ih _ (hp x (by omega))]
      rcases ha with rfl | rfl | rfl
      · exact fin_0 _ _
      · exact fin_3 _ _
      · exact fin_6 _ _
theorem mst_succ (i : Nat) : mst S U b (i + 1) = if lies S (i + 1) = true then beg S U b (i + 1) (fup S U (opn S i) (cpa S (i + 1)) (mst S U b i)) else mst S U b i := rfl
theorem mst_at (hp : ∀ i, 0 < i → cpa S i < i) {a : Nat} (ha : a = 0 ∨ a = 3 ∨ a = 6) (j : Nat) : ∀ k, mst S U b (j + k) a j = mst S U b j a j := by
  intro k
  induction k with
  | zero => rfl
  | succ k ih =>
    show mst S U b (j + k + 1) a j = _
    rw [mst_succ]
    split
    · rw [← ih, ← fup_at hp ha (cpa S (j + k + 1)) j (opn S (j + k)) (mst S U b (j + k)) (U := U)]
      rcases ha with rfl | rfl | rfl
      · rw [beg_0, if_neg (by omega)]
      · rw [beg_3, if_neg (by omega)]
      · rw [beg_6, if_neg (by omega)]
    · exact ih
theorem mfin_at (hp : ∀ i, 0 < i → cpa S i < i) {a : Nat} (ha : a = 0 ∨ a = 3 ∨ a = 6) {i j : Nat} (h1 : j ≤ i) (h2 : i ≤ sN S) : mfin S U b a j = mst S U b i a j := by
  unfold mfin
  rw [fup_at hp ha]
  obtain ⟨k, rfl⟩ : ∃ k, i = j + k := ⟨i - j, by omega⟩
  obtain ⟨m, hm⟩ : ∃ m, sN S = j + m := ⟨sN S - j, by omega⟩
  rw [hm, mst_at hp ha, mst_at hp ha]
theorem bhd_o {i : Nat} (h : ¬ ot S i = 0) : bhd S L i = L 0 (ot S i) := by unfold bhd; rw [if_pos h]
theorem bhd_p {i : Nat} (h : ot S i = 0) (hc : ¬ cpa S i = 0) : bhd S L i = L 1 (cpa S i) := by unfold bhd; rw [if_neg (by omega), if_pos hc]
theorem bhd_n {i : Nat} (h : ot S i = 0) (hc : cpa S i = 0) (hl : lte S i = true) : bhd S L i = L 0 (fnm S (na S i)) := by unfold bhd; rw [if_neg (by omega), if_neg (by omega), if_pos hl]
theorem bhd_r {i : Nat} (h : ot S i = 0) (hc : cpa S i = 0) (hl : lte S i = false) : bhd S L i = rup (L 4 0) 8 := by unfold bhd; rw [if_neg (by omega), if_neg (by omega), hl]; rfl
/-- records begin at multiples of 8 -/
theorem mst_8 (W : WB S U) : ∀ i, i ≤ sN S → ∀ j, 1 ≤ j → j ≤ i → lies S j = true → cpa S j = 0 → mst S U b i 0 j % 8 = 0 := by
  intro i
  induction i with
  | zero => intro _ j a c; omega
  | succ i ih =>
    intro hi j h1 h2 hl hc
    rw [mst_succ]
    by_cases e : j = i + 1
    · rw [e] at hl hc
      rw [e, if_pos hl, beg_0, if_pos rfl]
      generalize hG : fup S U (opn S i) (cpa S (i + 1)) (mst S U b i) = G
      have hG0 : ∀ k, G 0 k = mst S U b i 0 k := fun k => by rw [← hG]; exact fup_at W.p (Or.inl rfl) _ _ _ _
      have r8 : ∀ n, n % 8 = 0 → rup n (alg S U (i + 1)) = n := by
        intro n hn
        have : rup n 8 = n := by unfold rup; omega
        rw [← this]; exact rup_8 (W.al _)
      have pl8 : bhd S G (i + 1) % 8 = 0 → plc S U b G (i + 1) % 8 = 0 := fun h => by
        unfold plc
        split
        · exact h
        · rw [r8 _ h]; exact h
      apply pl8
      unfold bhd
      by_cases ho : ot S (i + 1) = 0
      · rw [if_neg (by omega), if_neg (by omega)]
        split
        · rename_i hlt
          obtain ⟨f1, f2, f3, f4⟩ := W.fn (i := i + 1) (by omega) hi hlt
          rw [hG0]
          refine ih (by omega) _ f1 (by omega) ?_ ?_
          · unfold lies; rw [f3]; rfl
          · rw [W.c0 f1 (by omega)]; exact Or.inl f3
        · unfold rup; omega
      · rw [if_pos ho, hG0]
        obtain ⟨o1, o2, o3, o4, o5, -⟩ := W.o (i := i + 1) (by omega) hi ho
        exact ih (by omega) _ (by omega) (by omega) o2 (by rw [o3]; exact hc)
    · have := ih (by omega) j h1 (by omega) hl hc
      split
      · rw [beg_0, if_neg e, fup_at W.p (Or.inl rfl)]; exact this
      · exact this
/-- a redefining item that isn't aligned -/
def mis (S : sg) (U : Nat → Nat) (k : Nat) : Bool := decide (¬ ot S k = 0 ∧ ¬ cpa S k = 0 ∧ ¬ rup (mfin S U false 0 (ot S k)) (alg S U k) = mfin S U false 0 (ot S k))
def tnt (S : sg) (U : Nat → Nat) (j : Nat) : Bool := chk (cpa S) (mis S U) j
theorem tnt_step (hp : ∀ i, 0 < i → cpa S i < i) {j : Nat} (hj : 0 < j) : tnt S U j = (mis S U j || tnt S U (cpa S j)) := chk_step hp hj
def SR (S : sg) (U : Nat → Nat) (A B : lm) : Prop := ∀ a j, tnt S U j = false → A a j = B a j
theorem SR.cl (hp : ∀ i, 0 < i → cpa S i < i) {A B : lm} (H : SR S U A B) {x : Nat} (hx : 0 < x) : SR S U (fin S U x A) (fin S U x B) := by
  intro a j hj
  have st := tnt_step (U := U) hp hx
  have ex : tnt S U x = false → exf S U A x = exf S U B x ∧ str U A x = str U B x ∧ A 0 x = B 0 x := fun h => by
    have := exf_same (S := S) (U := U) (H 0 x h) (H 1 x h)
    exact ⟨this.1, this.2, H 0 x h⟩
  have c0 : cpa S x = 0 → tnt S U x = false := fun h => by
    rw [st, h]
    have : mis S U x = false := decide_eq_false (fun q => q.2.1 h)
    rw [this]; rfl
  have c1 : ot S x = 0 → tnt S U (cpa S x) = false → tnt S U x = false := fun h h2 => by
    rw [st, h2]
    have : mis S U x = false := decide_eq_false (fun q => q.1 h)
    rw [this]; rfl
  unfold fin
  by_cases e1 : a = 2 ∧ j = x
  · rw [if_pos e1, if_pos e1]
    rw [e1.2] at hj
    rw [H 2 x hj, (ex hj).2.1]
  · rw [if_neg e1, if_neg e1]
    by_cases e2 : a = 5 ∧ j = x
    · rw [if_pos e2, if_pos e2]
    · rw [if_neg e2, if_neg e2]
      by_cases e3 : a = 4 ∧ j = 0
      · rw [if_pos e3, if_pos e3]
        have h4 := H 4 0 rfl
        by_cases hc : cpa S x = 0
        · rw [if_pos hc, if_pos hc, h4, (ex (c0 hc)).1, (ex (c0 hc)).2.2]
        · rw [if_neg hc, if_neg hc, h4]
      · rw [if_neg e3, if_neg e3]
        by_cases e4 : a = 1 ∧ j = cpa S x ∧ ¬ cpa S x = 0 ∧ ot S x = 0
        · rw [if_pos e4, if_pos e4]
          have := c1 e4.2.2.2 (by rw [← e4.2.1]; exact hj)
          rw [(ex this).1, (ex this).2.2]
        · rw [if_neg e4, if_neg e4]
          exact H a j hj
theorem SR.fp (hp : ∀ i, 0 < i → cpa S i < i) {last : Nat} : ∀ x A B, SR S U A B → SR S U (fup S U x last A) (fup S U x last B) := by
  intro x
  induction x using Nat.strongRecOn with
  | _ x ih =>
    intro A B H
    by_cases h0 : x = 0 ∨ x = last
    · rw [fup_0 h0, fup_0 h0]; exact H
    · rw [fup_step hp h0, fup_step hp h0]
      exact ih _ (hp x (by omega)) _ _ (H.cl hp (by omega))
theorem SR.bg (W : WB S U) {A B : lm} (H : SR S U A B) {i : Nat} (h1 : 1 ≤ i) (h2 : i ≤ sN S) (h8 : cpa S i = 0 → bhd S B i % 8 = 0) (hG : ¬ ot S i = 0 → B 0 (ot S i) = mfin S U false 0 (ot S i)) : SR S U (beg S U true i A) (beg S U false i B) := by
  intro a j hj
  have key : j = i → bhd S A i = bhd S B i ∧ plc S U true A i = plc S U false B i := by
    intro e
    rw [e, tnt_step W.p (by omega), Bool.or_eq_false_iff] at hj
    have eb : bhd S A i = bhd S B i := by
      by_cases ho : ot S i = 0
      · by_cases hc : cpa S i = 0
        · cases hl : lte S i with
          | true =>
            rw [bhd_n ho hc hl, bhd_n ho hc hl]
            obtain ⟨f1, f2, f3, f4⟩ := W.fn h1 h2 hl
            refine H 0 _ ?_
            rw [tnt_step W.p (by omega), (W.c0 f1 (by omega)).mpr (Or.inl f3)]
            have : mis S U (fnm S (na S i)) = false := decide_eq_false (fun q => q.2.1 ((W.c0 f1 (by omega)).mpr (Or.inl f3)))
            rw [this]; rfl
          | false =>
            rw [bhd_r ho hc hl, bhd_r ho hc hl, H 4 0 rfl]
        · rw [bhd_p ho hc, bhd_p ho hc]
          exact H 1 _ hj.2
      · rw [bhd_o ho, bhd_o ho]
        obtain ⟨o1, o2, o3, o4, o5, -⟩ := W.o h1 h2 ho
        refine H 0 _ ?_
        rw [tnt_step W.p (by omega), o3, hj.2]
        have : mis S U (ot S i) = false := decide_eq_false (fun q => q.1 o4)
        rw [this]; rfl
    refine ⟨eb, ?_⟩
    unfold plc
    rw [if_neg (fun q => by cases q.1), eb]
    by_cases q : ¬ ot S i = 0 ∨ cpa S i = 0
    · rw [if_pos ⟨rfl, q⟩]
      by_cases hc : cpa S i = 0
      · have h := h8 hc
        have e : rup (bhd S B i) 8 = bhd S B i := by unfold rup; omega
        rw [← e]; exact rup_8 (W.al i)
      · have ho : ¬ ot S i = 0 := by omega
        have hm := of_decide_eq_false hj.1
        have e : bhd S B i = B 0 (ot S i) := by unfold bhd; rw [if_pos ho]
        rw [e, hG ho]
        by_cases z : rup (mfin S U false 0 (ot S i)) (alg S U i) = mfin S U false 0 (ot S i)
        · exact z
        · exact absurd ⟨ho, hc, z⟩ hm
    · rw [if_neg (fun z => q z.2)]
  unfold beg
  by_cases e : j = i
  · obtain ⟨k1, k2⟩ := key e
    simp only [e, and_true]
    rw [k1, k2]
    rw [e] at hj
    by_cases a0 : a = 0
    · rw [if_pos a0, if_pos a0]
    · rw [if_neg a0, if_neg a0]
      by_cases a1 : a = 1
      · rw [if_pos a1, if_pos a1]
      · rw [if_neg a1, if_neg a1]
        by_cases a3 : a = 3
        · rw [if_pos a3, if_pos a3]
        · rw [if_neg a3, if_neg a3]
          by_cases a6 : a = 6
          · rw [if_pos a6, if_pos a6]
          · rw [if_neg a6, if_neg a6]
            exact H a i hj
  · simp only [e, and_false, if_false]
    exact H a j hj
theorem SR.ms (W : WB S U) : ∀ i, i ≤ sN S → SR S U (mst S U true i) (mst S U false i) := by
  intro i
  induction i with
  | zero => intro _ a j _; rfl
  | succ i ih =>
    intro hi
    have I := ih (by omega)
    rw [mst_succ, mst_succ]
    cases hl : lies S (i + 1) with
    | false => exact I
    | true =>
      rw [if_pos rfl, if_pos rfl]
      have F := SR.fp (last := cpa S (i + 1)) W.p (opn S i) _ _ I
      have g0 : ∀ k, fup S U (opn S i) (cpa S (i + 1)) (mst S U false i) 0 k = mst S U false i 0 k := fun k => fup_at W.p (Or.inl rfl) _ _ _ _
      refine SR.bg W F (by omega) hi (fun hc => ?_) (fun ho => ?_)
      · unfold bhd
        by_cases ho : ot S (i + 1) = 0
        · rw [if_neg (by omega), if_neg (by omega)]
          split
          · rename_i hlt
            obtain ⟨f1, f2, f3, f4⟩ := W.fn (i := i + 1) (by omega) hi hlt
            rw [g0]
            refine mst_8 W i (by omega) _ f1 (by omega) ?_ ?_
            · unfold lies; rw [f3]; rfl
            · rw [W.c0 f1 (by omega)]; exact Or.inl f3
          · unfold rup; omega
        · rw [if_pos ho, g0]
          obtain ⟨o1, o2, o3, o4, o5, -⟩ := W.o (i := i + 1) (by omega) hi ho
          exact mst_8 W i (by omega) _ (by omega) (by omega) o2 (by rw [o3]; exact hc)
      · have := W.o (i := i + 1) (by omega) hi ho
        rw [g0]
        exact (mfin_at W.p (Or.inl rfl) (by omega) (by omega)).symm
theorem SR.mf (W : WB S U) : SR S U (mfin S U true) (mfin S U false) := SR.fp W.p _ _ _ (SR.ms W _ (Nat.le_refl _))
end Sim1
