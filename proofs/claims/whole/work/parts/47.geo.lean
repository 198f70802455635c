/-! what holds of places when all is right -/
section Geo1
variable {S : sg} {U : Nat → Nat}
theorem xtn_exf (W : WB S U) {i : Nat} (h1 : 1 ≤ i) (h2 : i ≤ sN S) (hl : lies S i = true) : xtn S (mfin S U true) i = exf S U (mfin S U true) i ∧ (¬ tb S i = 0 → mfin S U true 2 i = str U (mfin S U true) i) := by
  have h := (INV.mf (b := true) W).2.1 i h1 h2 hl rfl
  refine ⟨?_, h.2.1⟩
  unfold xtn exf
  by_cases ht : tb S i = 0
  · rw [if_pos ht, if_pos ht]
  · rw [if_neg ht, if_neg ht, h.2.1 ht]
theorem len_xtn (W : WB S U) {i : Nat} (h1 : 1 ≤ i) (h2 : i ≤ sN S) (hl : lies S i = true) : mfin S U true 0 i + byi S i ≤ mfin S U true 1 i ∧ mfin S U true 1 i ≤ mfin S U true 0 i + xtn S (mfin S U true) i := by
  have c1 := (INV.mf (b := true) W).1 i h1 h2 hl
  refine ⟨c1.2.1, ?_⟩
  rw [(xtn_exf W h1 h2 hl).1]
  unfold exf
  by_cases ht : tb S i = 0
  · rw [if_pos ht]; have := c1.2.1; omega
  · rw [if_neg ht]
    have hm := (W.tm ht).1
    have hr := (rup_ge (n := mfin S U true 1 i - mfin S U true 0 i) (u := U i) (W.u i).le.1).1
    have := Nat.mul_le_mul_right (str U (mfin S U true) i) hm
    have e : mfin S U true 1 i - mfin S U true 0 i ≤ str U (mfin S U true) i := hr
    omega
theorem rgt_l {b : Bool} {L : lm} {i : Nat} (hl : lies S i = true) (h : rgt S U b L i = true) : ¬ (us S i = 0 ∧ lb S i = 0) ∧ (tb S i = 2 → lst S i = true) ∧ (¬ ot S i = 0 → (if b = true then L 0 i = L 0 (ot S i) else rup (L 0 i) (alg S U i) = L 0 i) ∧ (lv S i = 1 ∨ xtn S L i ≤ xtn S L (ot S i))) ∧ (¬ na S i = 0 → L 1 (fnm S (na S i)) - L 0 (fnm S (na S i)) = L 1 i - L 0 i) := by
  have hlv : ¬ lv S i = 88 ∧ ¬ lv S i = 66 := by
    unfold lies at hl
    rw [Bool.or_eq_true, decide_eq_true_eq, decide_eq_true_eq] at hl
    omega
  unfold rgt at h
  rw [if_neg hlv.1, if_neg hlv.2] at h
  exact of_decide_eq_true h
theorem g_in (W : WB S U) (ok : fwr S U true = 0) {i : Nat} (h1 : 1 ≤ i) (h2 : i ≤ sN S) (hl : lies S i = true) (hc : ¬ cpa S i = 0) : mfin S U true 0 (cpa S i) ≤ mfin S U true 0 i ∧ mfin S U true 0 i + xtn S (mfin S U true) i ≤ mfin S U true 1 (cpa S i) := by
  have key : ∀ k, 1 ≤ k → k ≤ sN S → lies S k = true → ¬ cpa S k = 0 → ot S k = 0 → mfin S U true 0 (cpa S k) ≤ mfin S U true 0 k ∧ mfin S U true 0 k + xtn S (mfin S U true) k ≤ mfin S U true 1 (cpa S k) := by
    intro k a c l q z
    have I := INV.mf (b := true) W
    rw [(xtn_exf W a c l).1]
    exact ⟨(I.1 k a c l).2.2.2 q z, (I.2.1 k a c l rfl).2.2.1 q z⟩
  by_cases ho : ot S i = 0
  · exact key i h1 h2 hl hc ho
  · obtain ⟨o1, o2, o3, o4, o5, -⟩ := W.o h1 h2 ho
    have r := ((rgt_l hl (fwr_rgt ok h1 h2)).2.2.1 ho)
    rw [if_pos rfl] at r
    have hlv : ¬ lv S i = 1 := fun q => hc ((W.c0 h1 h2).mpr (Or.inl q))
    have x := r.2.resolve_left hlv
    have := key (ot S i) (by omega) (by omega) o2 (by rw [o3]; exact hc) o4
    rw [o3] at this
    rw [r.1]
    omega
theorem g_all (W : WB S U) (ok : fwr S U true = 0) : ∀ i, 1 ≤ i → i ≤ sN S → lies S i = true → mfin S U true 0 i + xtn S (mfin S U true) i ≤ mfin S U true 4 0 := by
  intro i
  induction i using Nat.strongRecOn with
  | _ i ih =>
    intro h1 h2 hl
    by_cases hc : cpa S i = 0
    · rw [(xtn_exf W h1 h2 hl).1]
      exact ((INV.mf (b := true) W).2.1 i h1 h2 hl rfl).2.2.2 hc
    · have g := g_in W ok h1 h2 hl hc
      have lp := (W.ch h1 h2 hl hc).1
      have p := W.p i (by omega)
      have := ih _ p (by omega) (by omega) lp
      have := len_xtn W (i := cpa S i) (by omega) (by omega) lp
      omega
/-- what lies between an item and what it is below is below that too -/
theorem nest (W : WB S U) {c a : Nat} (h2 : c ≤ sN S) (hl : lies S c = true) (hc : ¬ cpa S c = 0) (ha : cpa S c < a) (hac : a < c) (la : lies S a = true) : onc S (cpa S a) (cpa S c) = true := by
  have I := INV.ms (b := true) W (c - 1) (by omega)
  exact I.2.2.2.2.1 _ a (W.ch (by omega) h2 hl hc).2.2 ha (by omega) la
theorem lent_up (hp : ∀ i, 0 < i → cpa S i < i) {i : Nat} (hi : 0 < i) (h : lent S i = false) : lent S (cpa S i) = false ∧ ot S i = 0 ∧ (cpa S i = 0 → lte S i = false) := by
  unfold lent at h ⊢
  rw [chk_step hp hi, Bool.or_eq_false_iff, Bool.or_eq_false_iff] at h
  refine ⟨h.2, ?_, fun hc => ?_⟩
  · have := h.1.1
    simpa using this
  · have := h.1.2
    rw [hc] at this
    simpa using this
theorem aside_up (hp : ∀ i, 0 < i → cpa S i < i) {i : Nat} (hi : 0 < i) (h : aside S i = false) : aside S (cpa S i) = false ∧ ot S i = 0 := by
  unfold aside at h ⊢
  rw [chk_step hp hi, Bool.or_eq_false_iff] at h
  refine ⟨h.2, ?_⟩
  have := h.1
  simpa using this
theorem lent_aside (hp : ∀ i, 0 < i → cpa S i < i) : ∀ i, lent S i = false → aside S i = false := by
  intro i
  induction i using Nat.strongRecOn with
  | _ i ih =>
    intro h
    by_cases h0 : i = 0
    · subst h0; rfl
    · obtain ⟨u1, u2, u3⟩ := lent_up hp (by omega) h
      have := ih _ (hp i (by omega)) u1
      unfold aside at this ⊢
      rw [chk_step hp (by omega), this]
      simp [u2]
theorem g_ord (W : WB S U) (ok : fwr S U true = 0) : ∀ n a c, a + c ≤ n → 1 ≤ a → a < c → c ≤ sN S → lies S a = true → lies S c = true → aside S a = false → aside S c = false → ((∃ r, onc S a r = true ∧ onc S c r = true) ∨ lent S c = false) → onc S c a = false → mfin S U true 0 a + xtn S (mfin S U true) a ≤ mfin S U true 0 c := by
  intro n
  induction n with
  | zero => intro a c h; omega
  | succ n ih =>
    intro a c hn h1 h2 h3 la lc oa oc hr hb
    have pa' := W.p a (by omega)
    have pc' := W.p c (by omega)
    obtain ⟨ua1, ua2⟩ := aside_up W.p (by omega) oa
    obtain ⟨uc1, uc2⟩ := aside_up W.p (by omega) oc
    have nb := (onc_no W.p (by omega) hb).2
    by_cases e : cpa S a = cpa S c
    · rw [(xtn_exf W h1 (by omega) la).1]
      refine (INV.mf (b := true) W).2.2.2.1 a c h1 h2 h3 la lc e ?_
      by_cases hc : cpa S c = 0
      · refine Or.inr ⟨hc, uc2, ?_⟩
        rcases hr with ⟨r, r1, r2⟩ | hr
        · rcases onc_or W.p r1 with q | q
          · rw [q] at r2
            rcases onc_or W.p r2 with q2 | q2
            · omega
            · rw [hc] at q2; cases q2
          · rw [e, hc] at q; cases q
        · exact (lent_up W.p (by omega) hr).2.2 hc
      · exact Or.inl ⟨hc, ua2, uc2⟩
    · by_cases hac : a < cpa S c
      · have lp := (W.ch (by omega) h3 lc (by omega)).1
        have hr' : (∃ r, onc S a r = true ∧ onc S (cpa S c) r = true) ∨ lent S (cpa S c) = false := by
          rcases hr with ⟨r, r1, r2⟩ | hr
          · refine Or.inl ⟨r, r1, ?_⟩
            rcases onc_or W.p r2 with q | q
            · have := onc_le W.p _ _ r1; omega
            · exact q
          · exact Or.inr (lent_up W.p (by omega) hr).1
        have := ih a (cpa S c) (by omega) h1 hac (by omega) la lp oa uc1 hr' nb
        have := (g_in W ok (by omega) h3 lc (by omega)).1
        omega
      · have hne : ¬ cpa S c = a := by
          intro q
          rw [q, onc_self W.p (by omega)] at nb; cases nb
        have ca : ¬ cpa S a = 0 ∧ onc S c (cpa S a) = false := by
          by_cases hc : cpa S c = 0
          · refine ⟨by omega, ?_⟩
            rw [onc_step W.p (by omega), hc, Bool.or_eq_false_iff]
            exact ⟨decide_eq_false (by omega), rfl⟩
          · have q := nest W h3 lc hc (by omega) h2 la
            have q2 := onc_le W.p _ _ q
            refine ⟨by omega, ?_⟩
            rw [onc_step W.p (by omega), Bool.or_eq_false_iff]
            refine ⟨decide_eq_false (by omega), ?_⟩
            cases z : onc S (cpa S c) (cpa S a) with
            | false => rfl
            | true => have := onc_le W.p _ _ z; omega
        have lp := (W.ch h1 (by omega) la ca.1).1
        have hr' : (∃ r, onc S (cpa S a) r = true ∧ onc S c r = true) ∨ lent S c = false := by
          rcases hr with ⟨r, r1, r2⟩ | hr
          · refine Or.inl ⟨r, ?_, r2⟩
            rcases onc_or W.p r1 with q | q
            · rw [q, hb] at r2; cases r2
            · exact q
          · exact Or.inr hr
        have := ih (cpa S a) c (by omega) (by omega) (by omega) h3 lp lc ua1 oc hr' ca.2
        have := (g_in W ok h1 (by omega) la ca.1).2
        have := (len_xtn W (i := cpa S a) (by omega) (by omega) lp).2
        omega
end Geo1
