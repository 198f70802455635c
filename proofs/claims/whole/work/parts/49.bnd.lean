/-! how far items reach, at most -/
def IN3 (S : sg) (U : Nat → Nat) (i x : Nat) (L : lm) : Prop := ∀ c, 1 ≤ c → c ≤ i → lies S c = true → onc S x c = false → exf S U L c ≤ 512 * (i + 1) * 1000000000
section Bnd1
variable {S : sg} {U : Nat → Nat} {L : lm} {b : Bool}
theorem IN3.skip {i x : Nat} (I : IN3 S U i x L) (hl : lies S (i + 1) = false) : IN3 S U (i + 1) x L := by
  intro c h1 h2 h3 h4
  have : ¬ c = i + 1 := fun e => by rw [e, hl] at h3; cases h3
  exact Nat.le_trans (I c h1 (by omega) h3 h4) (by omega)
theorem IN3.cl (W : WB S U) {i x : Nat} (V : INV S U i x L) (I : IN3 S U i x L) (hx : 0 < x) : IN3 S U i (cpa S x) (fin S U x L) := by
  intro c h1 h2 h3 h4
  have hs := onc_self W.p hx
  have px := W.p x hx
  have ex : ∀ j, (j = x ∨ onc S x j = false) → exf S U (fin S U x L) j = exf S U L j := fun j hj => by
    refine (exf_same (fin_0 _ _) ?_).1
    rw [fin_1, if_neg]
    intro q
    rcases hj with e | e
    · omega
    · rw [q.1, onc_par W.p hs q.2.1] at e; cases e
  by_cases e : c = x
  · rw [e, ex x (Or.inl rfl)]
    have h := exf_le W V hx
    have hm : 512 * (i + 1 - x) * 1000 ^ (3 - tabs S (cpa S x)) ≤ 512 * (i + 1) * 1000000000 := Nat.mul_le_mul (by omega) (p1000 _).1
    omega
  · have nx : onc S x c = false := by
      cases hq : onc S x c with
      | false => rfl
      | true =>
        rcases onc_or W.p hq with q | q
        · exact absurd q e
        · rw [q] at h4; cases h4
    rw [ex c (Or.inr nx)]
    exact I c h1 h2 h3 nx
theorem IN3.bg (W : WB S U) {i : Nat} (I : IN3 S U i (cpa S (i + 1)) L) : IN3 S U (i + 1) (i + 1) (beg S U b (i + 1) L) := by
  intro c h1 h2 h3 h4
  have hne := onc_no W.p (by omega) h4
  have z0 : ∀ j, j ≤ i → beg S U b (i + 1) L 0 j = L 0 j := fun j h => by rw [beg_0, if_neg (by omega)]
  have z1 : ∀ j, j ≤ i → beg S U b (i + 1) L 1 j = L 1 j := fun j h => by rw [beg_1, if_neg (by omega)]
  rw [(exf_same (z0 c (by omega)) (z1 c (by omega))).1]
  exact Nat.le_trans (I c h1 (by omega) h3 hne.2) (by omega)
theorem IN3.fp (W : WB S U) {i last : Nat} (hi : i ≤ sN S) : ∀ x L, INV S U i x L → IN3 S U i x L → (last = 0 ∨ onc S x last = true) → IN3 S U i last (fup S U x last L) := by
  intro x
  induction x using Nat.strongRecOn with
  | _ x ih =>
    intro L I J h
    by_cases h0 : x = 0 ∨ x = last
    · rw [fup_0 h0]
      by_cases e : x = last
      · rw [← e]; exact J
      · have e0 : x = 0 := by omega
        rcases h with h | h
        · omega
        · rw [e0] at h; cases h
    · rw [fup_step W.p h0]
      refine ih _ (W.p x (by omega)) _ (I.cl W (by omega) hi) (J.cl W I (by omega)) ?_
      rcases h with h | h
      · exact Or.inl h
      · rcases onc_or W.p h with q | q
        · omega
        · exact Or.inr q
theorem IN3.ms (W : WB S U) : ∀ i, i ≤ sN S → IN3 S U i (opn S i) (mst S U b i) := by
  intro i
  induction i with
  | zero => intro _ c a1 a2; omega
  | succ i ih =>
    intro hi
    have I := INV.ms (b := b) W i (by omega)
    have J := ih (by omega)
    have e2 : opn S (i + 1) = if lies S (i + 1) = true then i + 1 else opn S i := rfl
    rw [mst_succ, e2]
    cases hl : lies S (i + 1) with
    | false => exact J.skip hl
    | true =>
      rw [if_pos rfl, if_pos rfl]
      refine IN3.bg W (J.fp W (by omega) _ _ I ?_)
      by_cases hc : cpa S (i + 1) = 0
      · exact Or.inl hc
      · exact Or.inr (W.ch (by omega) hi hl hc).2.2
theorem IN3.mf (W : WB S U) : IN3 S U (sN S) 0 (mfin S U b) := IN3.fp W (Nat.le_refl _) _ _ (INV.ms W _ (Nat.le_refl _)) (IN3.ms W _ (Nat.le_refl _)) (Or.inl rfl)
/-- .. of the finished layout, of either side -/
theorem fin_b (W : WB S U) (hN : sN S ≤ 120) {i : Nat} (h1 : 1 ≤ i) (h2 : i ≤ sN S) (hl : lies S i = true) : mfin S U b 6 i = 1 ∧ mfin S U b 5 i = 1 ∧ mfin S U b 0 i ≤ mfin S U b 1 i ∧ mfin S U b 0 i < 2 ^ 62 ∧ xtn S (mfin S U b) i < 2 ^ 62 ∧ mfin S U b 4 0 < 2 ^ 62 ∧ mfin S U b 1 i - mfin S U b 0 i ≤ xtn S (mfin S U b) i := by
  have I := INV.mf (b := b) W
  have c1 := I.1 i h1 h2 hl
  have c2 := I.2.1 i h1 h2 hl rfl
  have c6 := I.2.2.2.2.2.1 i h1 h2 hl
  have c8 := I.2.2.2.2.2.2.2.1
  have c3 := IN3.mf (b := b) W i h1 h2 hl rfl
  have ex : xtn S (mfin S U b) i = exf S U (mfin S U b) i := by
    unfold xtn exf
    by_cases ht : tb S i = 0
    · rw [if_pos ht, if_pos ht]
    · rw [if_neg ht, if_neg ht, c2.2.1 ht]
  have ll : mfin S U b 1 i - mfin S U b 0 i ≤ xtn S (mfin S U b) i := by
    rw [ex]
    unfold exf
    by_cases ht : tb S i = 0
    · rw [if_pos ht]; exact Nat.le_refl _
    · rw [if_neg ht]
      have hm := (W.tm ht).1
      have hr := (rup_ge (n := mfin S U b 1 i - mfin S U b 0 i) (u := U i) (W.u i).le.1).1
      have := Nat.mul_le_mul_right (str U (mfin S U b) i) hm
      have e : mfin S U b 1 i - mfin S U b 0 i ≤ str U (mfin S U b) i := hr
      omega
  exact ⟨c1.1, c2.1, by have := c1.2.1; omega, by omega, by rw [ex]; omega, by omega, ll⟩
theorem fin_n (W : WB S U) {i : Nat} (hl : lies S i = false) : ∀ n, n ≤ sN S → mst S U b n 6 i = 0 := by
  intro n
  induction n with
  | zero => intro _; rfl
  | succ n ih =>
    intro hn
    have := ih (by omega)
    rw [mst_succ]
    split
    · rename_i c
      have : ¬ i = n + 1 := fun e => by rw [e, c] at hl; cases hl
      rw [beg_6, if_neg this, fup_at W.p (by omega)]
      exact ih (by omega)
    · exact this
end Bnd1
