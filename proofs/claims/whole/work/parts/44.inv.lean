section Inv2
variable {S : sg} {U : Nat → Nat} {L : lm} {b : Bool}
theorem beg_0 (i j : Nat) : beg S U b i L 0 j = if j = i then plc S U b L i else L 0 j := by unfold beg; simp
theorem beg_1 (i j : Nat) : beg S U b i L 1 j = if j = i then plc S U b L i + byi S i else L 1 j := by unfold beg; simp
theorem beg_2 (i j : Nat) : beg S U b i L 2 j = L 2 j := by unfold beg; simp
theorem beg_3 (i j : Nat) : beg S U b i L 3 j = if j = i then plc S U b L i - bhd S L i else L 3 j := by unfold beg; simp
theorem beg_4 (i j : Nat) : beg S U b i L 4 j = L 4 j := by unfold beg; simp
theorem beg_5 (i j : Nat) : beg S U b i L 5 j = L 5 j := by unfold beg; simp
theorem beg_6 (i j : Nat) : beg S U b i L 6 j = if j = i then 1 else L 6 j := by unfold beg; simp
theorem plc_ge (W : WB S U) (i : Nat) : bhd S L i ≤ plc S U b L i ∧ plc S U b L i ≤ bhd S L i + 7 := by
  have h := rup_ge (n := bhd S L i) (u := alg S U i) (W.al i).le.1
  have := (W.al i).le
  unfold plc
  split <;> omega
theorem plc_rec (W : WB S U) {i : Nat} (hc : cpa S i = 0) (ho : ot S i = 0) (hl : lte S i = false) : plc S U b L i = rup (L 4 0) 8 := by
  have e : bhd S L i = rup (L 4 0) 8 := by unfold bhd; rw [if_neg (by omega), if_neg (by omega), hl]; rfl
  unfold plc
  rw [e, rup_8 (W.al i)]
  split <;> rfl
theorem INV.bg (W : WB S U) {i : Nat} (I : INV S U i (cpa S (i + 1)) L) (hi : i + 1 ≤ sN S) (hl : lies S (i + 1) = true) : INV S U (i + 1) (i + 1) (beg S U b (i + 1) L) := by
  obtain ⟨c1, c2, c3, c4, c5, c6, c7, c8, c9, c10⟩ := I
  obtain ⟨g1, g2⟩ := plc_ge (L := L) (b := b) W (i + 1)
  have hcl := W.p (i + 1) (by omega)
  have hby := W.by (i + 1)
  have hp9 := fun j => p1000 (tabs S j)
  -- what is around it
  have pc : ¬ cpa S (i + 1) = 0 → onc S (cpa S (i + 1)) (cpa S (i + 1)) = true := fun h => onc_self W.p (by omega)
  have nw' : ¬ cpa S (i + 1) = 0 → ot S (i + 1) = 0 → L 1 (cpa S (i + 1)) ≤ plc S U b L (i + 1) ∧ plc S U b L (i + 1) + 1 ≤ L 0 (cpa S (i + 1)) + 512 * (i + 1 - cpa S (i + 1)) * 1000 ^ (3 - tabs S (cpa S (i + 1))) := by
    intro hc ho
    have e : bhd S L (i + 1) = L 1 (cpa S (i + 1)) := by unfold bhd; rw [if_neg (by omega), if_pos hc]
    rw [e] at g1 g2
    have := c7 _ (pc hc)
    omega
  have bd : plc S U b L (i + 1) + 1 ≤ 512 * (i + 1) * 1000000000 := by
    by_cases ho : ot S (i + 1) = 0
    · by_cases hc : cpa S (i + 1) = 0
      · cases hlt : lte S (i + 1) with
        | true =>
          obtain ⟨f1, f2, f3, f4⟩ := W.fn (i := i + 1) (by omega) hi hlt
          have lf : lies S (fnm S (na S (i + 1))) = true := by unfold lies; rw [f3]; rfl
          have e : bhd S L (i + 1) = L 0 (fnm S (na S (i + 1))) := by unfold bhd; rw [if_neg (by omega), if_neg (by omega), if_pos hlt]
          have h := c6 _ f1 (by omega) lf
          rw [e] at g2
          generalize fnm S (na S (i + 1)) = k at *
          omega
        | false =>
          rw [plc_rec W hc ho hlt]
          have := (rup_ge (n := L 4 0) (u := 8) (by decide)).2
          omega
      · obtain ⟨q1, q2⟩ := nw' hc ho
        have h := c6 _ (by omega) c9 (c10 _ (pc hc))
        have hm : 512 * (i + 1 - cpa S (i + 1)) * 1000 ^ (3 - tabs S (cpa S (i + 1))) ≤ 512 * (i + 1 - cpa S (i + 1)) * 1000000000 := Nat.mul_le_mul_left _ (hp9 _).1
        omega
    · obtain ⟨o1, o2, o3, o4, o5, -⟩ := W.o (i := i + 1) (by omega) hi ho
      have e : bhd S L (i + 1) = L 0 (ot S (i + 1)) := by unfold bhd; rw [if_pos ho]
      have h := c6 _ (by omega) (by omega) o2
      rw [e] at g2
      omega
  have z0 : ∀ j, j ≤ i → beg S U b (i + 1) L 0 j = L 0 j := fun j h => by rw [beg_0, if_neg (by omega)]
  have z1 : ∀ j, j ≤ i → beg S U b (i + 1) L 1 j = L 1 j := fun j h => by rw [beg_1, if_neg (by omega)]
  have n0 : beg S U b (i + 1) L 0 (i + 1) = plc S U b L (i + 1) := by rw [beg_0, if_pos rfl]
  have n1 : beg S U b (i + 1) L 1 (i + 1) = plc S U b L (i + 1) + byi S (i + 1) := by rw [beg_1, if_pos rfl]
  have same : ∀ j, j ≤ i → exf S U (beg S U b (i + 1) L) j = exf S U L j ∧ str U (beg S U b (i + 1) L) j = str U L j := fun j h => exf_same (z0 j h) (z1 j h)
  have pl' : ∀ j, 1 ≤ j → j ≤ i → cpa S j ≤ i := fun j a h => by have := W.p j (by omega); omega
  have up : ∀ j, onc S (i + 1) j = true → j = i + 1 ∨ onc S (cpa S (i + 1)) j = true := fun j h => onc_or W.p h
  have ch : ∀ j, onc S (cpa S (i + 1)) j = true → 1 ≤ j ∧ j ≤ i := fun j h => by have := onc_le W.p _ _ h; omega
  refine ⟨fun j a h l => ?_, fun j a h l hn => ?_, fun j h hc ho => ?_, fun a c h1 h2 h3 h4 h5 h6 h7 => ?_, fun j k h h1 h2 h3 => ?_, fun j a h l => ?_, fun j h => ?_, ?_, Nat.le_refl _, fun j h => ?_⟩
  · by_cases e : j = i + 1
    · rw [e, beg_6, if_pos rfl, n0, n1]
      refine ⟨rfl, Nat.le_refl _, fun _ => rfl, fun hc ho => ?_⟩
      rw [z0 _ (by omega)]
      have := (c1 _ (by omega) c9 (c10 _ (pc hc))).2.1
      have := (nw' hc ho).1
      omega
    · have := pl' j a (by omega)
      rw [beg_6, if_neg e, z0 j (by omega), z1 j (by omega), z0 _ this]
      exact c1 j a (by omega) l
  · have hne := onc_no W.p (by omega) hn
    have hji : j ≤ i := by omega
    rw [beg_5, beg_2, beg_4, (same j hji).1, (same j hji).2, z0 j hji, z1 _ (pl' j a hji)]
    exact c2 j a hji l hne.2
  · rcases up j h with e | e
    · rw [e] at hc ho
      rw [e, n0, z1 _ (by omega), z0 _ (by omega)]
      exact nw' hc ho
    · have := ch j e
      have q := pl' j this.1 this.2
      rw [z0 j this.2, z1 _ q, z0 _ q]
      exact c3 j e hc ho
  · by_cases e : c = i + 1
    · rw [e] at h6 h7
      rw [e, n0, z0 a (by omega), (same a (by omega)).1]
      have nx : onc S (cpa S (i + 1)) a = false := by
        cases hq : onc S (cpa S (i + 1)) a with
        | false => rfl
        | true =>
          have q := onc_le W.p _ _ hq
          have := W.p a h1
          omega
      obtain ⟨-, -, f3, f4⟩ := c2 a h1 (by omega) h4 nx
      rcases h7 with ⟨q1, q2, q3⟩ | ⟨q1, q2, q3⟩
      · have t := f3 (by omega) q2
        rw [h6] at t
        exact Nat.le_trans t (nw' q1 q3).1
      · rw [plc_rec W q1 q2 q3]
        have t := f4 (by omega)
        exact Nat.le_trans t (rup_ge (by decide)).1
    · rw [z0 a (by omega), z0 c (by omega), (same a (by omega)).1]
      exact c4 a c h1 h2 (by omega) h4 h5 h6 h7
  · rcases up j h with e | e
    · omega
    · by_cases ek : k = i + 1
      · rw [ek]; exact e
      · exact c5 j k e h1 (by omega) h3
  · by_cases e : j = i + 1
    · rw [e, n0]; exact bd
    · rw [z0 j (by omega)]; exact c6 j a (by omega) l
  · rcases up j h with e | e
    · rw [e, n0, n1]
      have h1 := (hp9 (i + 1)).2
      have : 512 * (i + 1 + 1 - (i + 1)) * 1000 ^ (3 - tabs S (i + 1)) = 512 * 1000 ^ (3 - tabs S (i + 1)) := by
        rw [show i + 1 + 1 - (i + 1) = 1 by omega]
      omega
    · have q := ch j e
      rw [z0 j q.2, z1 j q.2]
      have h7 := c7 j e
      have hm : 512 * (i + 1 - j) * 1000 ^ (3 - tabs S j) ≤ 512 * (i + 1 + 1 - j) * 1000 ^ (3 - tabs S j) := Nat.mul_le_mul_right _ (by omega)
      omega
  · rw [beg_4]; exact Nat.le_trans c8 (by omega)
  · rcases up j h with e | e
    · rw [e]; exact hl
    · exact c10 j e
theorem INV.foks (W : WB S U) {i last : Nat} (hi : i ≤ sN S) (hN : sN S ≤ 120) : ∀ f x L, INV S U i x L → FOKs S U last f x L := by
  intro f
  induction f with
  | zero => intro x L _; trivial
  | succ f ih =>
    intro x L I
    by_cases h0 : x = 0 ∨ x = last
    · exact Or.inl h0
    · exact Or.inr ⟨I.fok W (by omega) hi hN, ih _ _ (I.cl W (by omega) hi)⟩
theorem INV.fp (W : WB S U) {i last : Nat} (hi : i ≤ sN S) : ∀ x L, INV S U i x L → (last = 0 ∨ onc S x last = true) → INV S U i last (fup S U x last L) := by
  intro x
  induction x using Nat.strongRecOn with
  | _ x ih =>
    intro L I h
    by_cases h0 : x = 0 ∨ x = last
    · rw [fup_0 h0]
      by_cases e : x = last
      · rw [← e]; exact I
      · have e0 : x = 0 := by omega
        rcases h with h | h
        · omega
        · rw [e0] at h; cases h
    · rw [fup_step W.p h0]
      refine ih _ (W.p x (by omega)) _ (I.cl W (by omega) hi) ?_
      rcases h with h | h
      · exact Or.inl h
      · rcases onc_or W.p h with q | q
        · omega
        · exact Or.inr q
theorem INV.ms (W : WB S U) : ∀ i, i ≤ sN S → INV S U i (opn S i) (mst S U b i) := by
  intro i
  induction i with
  | zero => intro _; exact INV.zero
  | succ i ih =>
    intro hi
    have I := ih (by omega)
    have e1 : mst S U b (i + 1) = if lies S (i + 1) = true then beg S U b (i + 1) (fup S U (opn S i) (cpa S (i + 1)) (mst S U b i)) else mst S U b i := rfl
    have e2 : opn S (i + 1) = if lies S (i + 1) = true then i + 1 else opn S i := rfl
    rw [e1, e2]
    cases hl : lies S (i + 1) with
    | false => exact I.skip hl
    | true =>
      rw [if_pos rfl, if_pos rfl]
      refine INV.bg W (I.fp W (by omega) _ _ ?_) hi hl
      by_cases hc : cpa S (i + 1) = 0
      · exact Or.inl hc
      · exact Or.inr (W.ch (by omega) hi hl hc).2.2
theorem INV.nx (W : WB S U) {i : Nat} (hi : i + 1 ≤ sN S) (hl : lies S (i + 1) = true) : INV S U i (cpa S (i + 1)) (fup S U (opn S i) (cpa S (i + 1)) (mst S U b i)) := by
  refine INV.fp W (by omega) _ _ (INV.ms W i (by omega)) ?_
  by_cases hc : cpa S (i + 1) = 0
  · exact Or.inl hc
  · exact Or.inr (W.ch (by omega) hi hl hc).2.2
theorem INV.mf (W : WB S U) : INV S U (sN S) 0 (mfin S U b) := INV.fp W (Nat.le_refl _) _ _ (INV.ms W _ (Nat.le_refl _)) (Or.inl rfl)
end Inv2
