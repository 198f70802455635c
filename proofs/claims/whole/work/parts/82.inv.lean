/-! what isn't finished -/
def IN4 (S : sg) (i x : Nat) (L : lm) : Prop := (∀ j, onc S x j = true → L 5 j = 0) ∧ (∀ j, i < j → L 5 j = 0 ∧ L 6 j = 0)
section Inv4
variable {S : sg} {U : Nat → Nat} {L : lm} {b : Bool}
theorem IN4.cl (W : WB S U) {i x : Nat} (I : IN4 S i x L) (hx : 0 < x) (hxi : x ≤ i) : IN4 S i (cpa S x) (fin S U x L) := by
  have px := W.p x hx
  refine ⟨fun j h => ?_, fun j h => ?_⟩
  · have := onc_le W.p _ _ h
    rw [fin_5, if_neg (by omega)]
    exact I.1 j (onc_up W.p hx h)
  · rw [fin_5, if_neg (by omega), fin_6]
    exact I.2 j h
theorem IN4.bg (W : WB S U) {i : Nat} (I : IN4 S i (cpa S (i + 1)) L) : IN4 S (i + 1) (i + 1) (beg S U b (i + 1) L) := by
  refine ⟨fun j h => ?_, fun j h => ?_⟩
  · rw [beg_5]
    rcases onc_or W.p h with e | e
    · rw [e]; exact (I.2 (i + 1) (by omega)).1
    · exact I.1 j e
  · rw [beg_5, beg_6, if_neg (by omega)]
    exact I.2 j (by omega)
theorem IN4.skip {i x : Nat} (I : IN4 S i x L) : IN4 S (i + 1) x L := ⟨I.1, fun j h => I.2 j (by omega)⟩
theorem IN4.fp (W : WB S U) {i last : Nat} : ∀ x L, x ≤ i → IN4 S i x L → (last = 0 ∨ onc S x last = true) → IN4 S i last (fup S U x last L) := by
  intro x
  induction x using Nat.strongRecOn with
  | _ x ih =>
    intro L hx I h
    by_cases h0 : x = 0 ∨ x = last
    · rw [fup_0 h0]
      by_cases e : x = last
      · rw [← e]; exact I
      · have e0 : x = 0 := by omega
        rcases h with h | h
        · omega
        · rw [e0] at h; cases h
    · rw [fup_step W.p h0]
      have := W.p x (by omega)
      refine ih _ this _ (by omega) (I.cl W (by omega) hx) ?_
      rcases h with h | h
      · exact Or.inl h
      · rcases onc_or W.p h with q | q
        · omega
        · exact Or.inr q
theorem IN4.ms (W : WB S U) : ∀ i, i ≤ sN S → IN4 S i (opn S i) (mst S U b i) := by
  intro i
  induction i with
  | zero => intro _; exact ⟨fun j h => (by cases h), fun j _ => ⟨rfl, rfl⟩⟩
  | succ i ih =>
    intro hi
    have J := ih (by omega)
    have e2 : opn S (i + 1) = if lies S (i + 1) = true then i + 1 else opn S i := rfl
    rw [mst_succ, e2]
    cases hl : lies S (i + 1) with
    | false => exact J.skip
    | true =>
      rw [if_pos rfl, if_pos rfl]
      refine IN4.bg W (J.fp W _ _ (opn_le _) ?_)
      by_cases hc : cpa S (i + 1) = 0
      · exact Or.inl hc
      · exact Or.inr (W.ch (by omega) hi hl hc).2.2
end Inv4
