/-! what holds of every state: the tree -/
def WS1 (S : sg) : Prop := ∀ i, 1 ≤ i → i ≤ sN S →
  ((1 ≤ lv S i ∧ lv S i ≤ 49) ∨ lv S i = 66 ∨ lv S i = 77 ∨ lv S i = 88) ∧ okU (lv S i) (us S i) (dg S i) = true ∧
  (lv S i = 1 ∨ lv S i = 66 ∨ lv S i = 77 → pa S i = 0) ∧
  (2 ≤ lv S i ∧ lv S i ≤ 49 → 1 ≤ pa S i ∧ us S (pa S i) = 0 ∧ 1 ≤ lv S (pa S i) ∧ lv S (pa S i) < lv S i ∧ onc S (opn S (i - 1)) (pa S i) = true ∧ rc S (pa S i) = rc S i ∧ lb S (pa S i) = lv S i ∧ ∀ k, pa S i < k → k < i → lies S k = true → lv S i ≤ lv S k) ∧
  (lv S i = 88 → 1 ≤ pa S i ∧ 3 ≤ us S (pa S i) ∧ us S (pa S i) ≤ 8 ∧ rc S (pa S i) = rc S i) ∧
  (lv S i = 1 ∨ lv S i = 77 → rc S i = i) ∧ (¬ (lv S i = 1 ∨ lv S i = 77) → 2 ≤ i ∧ rc S i = rc S (i - 1)) ∧
  (2 ≤ lv S i ∧ lv S i ≤ 49 ∨ lv S i = 66 → lv S (rc S i) = 1) ∧ (lv S i = 66 → us S (rc S i) = 0) ∧
  (∀ k, 1 ≤ k → k < i → lv S k = 66 → rc S k = rc S i → lv S i = 66) ∧
  (¬ lb S i = 0 → ∃ k, i < k ∧ k ≤ sN S ∧ cpa S k = i ∧ lies S k = true)
section Ws1
variable {S : sg} {l u s : Nat}
theorem lies_of {i : Nat} (h : lies S i = true) : lv S i < 50 ∨ lv S i = 77 := by
  unfold lies at h
  rw [Bool.or_eq_true, decide_eq_true_eq, decide_eq_true_eq] at h
  exact h
theorem lies_mk {i : Nat} (h : lv S i < 50 ∨ lv S i = 77) : lies S i = true := by
  unfold lies
  rw [Bool.or_eq_true, decide_eq_true_eq, decide_eq_true_eq]
  exact h
theorem cpa_p {i : Nat} (h : lv S i < 50) : cpa S i = pa S i := if_pos h
theorem cpa_n {i : Nat} (h : ¬ lv S i < 50) : cpa S i = 0 := if_neg h
theorem chk_eq {p q : Nat → Nat} {f f' : Nat → Bool} {n : Nat} (hp : ∀ i, 0 < i → p i < i) (hq : ∀ i, 0 < i → q i < i) (h : ∀ i, 1 ≤ i → i ≤ n → p i = q i ∧ f i = f' i) : ∀ j, j ≤ n → chk p f j = chk q f' j := by
  intro j
  induction j using Nat.strongRecOn with
  | _ j ih =>
    intro hj
    by_cases h0 : j = 0
    · subst h0; rfl
    · obtain ⟨h1, h2⟩ := h j (by omega) hj
      have := hp j (by omega)
      rw [chk_step hp (by omega), chk_step hq (by omega), h2, ← h1, ih _ this (by omega)]
theorem chn_eq {p q : Nat → Nat} {f f' : Nat → Bool} {n : Nat} (hp : ∀ i, 0 < i → p i < i) (hq : ∀ i, 0 < i → q i < i) (h : ∀ i, 1 ≤ i → i ≤ n → p i = q i ∧ f i = f' i) : ∀ j, j ≤ n → chn p f j = chn q f' j := by
  intro j
  induction j using Nat.strongRecOn with
  | _ j ih =>
    intro hj
    by_cases h0 : j = 0
    · subst h0; rfl
    · obtain ⟨h1, h2⟩ := h j (by omega) hj
      have := hp j (by omega)
      rw [chn_step hp (by omega), chn_step hq (by omega), h2, ← h1, ih _ this (by omega)]
theorem opn_eq {S' : sg} {n : Nat} (h : ∀ i, 1 ≤ i → i ≤ n → lies S' i = lies S i) : ∀ j, j ≤ n → opn S' j = opn S j := by
  intro j
  induction j with
  | zero => intro _; rfl
  | succ j ih =>
    intro hj
    have e1 : opn S' (j + 1) = if lies S' (j + 1) = true then j + 1 else opn S' j := rfl
    have e2 : opn S (j + 1) = if lies S (j + 1) = true then j + 1 else opn S j := rfl
    rw [e1, e2, h (j + 1) (by omega) hj, ih (by omega)]
/-- an item's record is the last of 1 or 77 not behind it -/
theorem WS1.wr (W : WS1 S) : WR S := by
  intro i
  induction i with
  | zero => intro h; omega
  | succ i ih =>
    intro h1 h2
    obtain ⟨a1, a2, a3, a4, a5, a6, a7, a8, a9, a10, a11⟩ := W (i + 1) h1 h2
    by_cases c : lv S (i + 1) = 1 ∨ lv S (i + 1) = 77
    · rw [a6 c]; omega
    · obtain ⟨b1, b2⟩ := a7 c
      have e : i + 1 - 1 = i := by omega
      rw [e] at b2
      have := ih (by omega) (by omega)
      rw [b2]; omega
theorem rc_same (W : WS1 S) {p : Nat} (hp : 1 ≤ p) : ∀ n, p ≤ n → n ≤ sN S → (∀ k, p < k → k ≤ n → ¬ (lv S k = 1 ∨ lv S k = 77)) → rc S n = rc S p := by
  intro n
  induction n with
  | zero => intro h; omega
  | succ n ih =>
    intro h1 h2 h
    by_cases e : p = n + 1
    · rw [e]
    · obtain ⟨a1, a2, a3, a4, a5, a6, a7, -⟩ := W (n + 1) (by omega) h2
      have b2 := (a7 (h (n + 1) (by omega) (Nat.le_refl _))).2
      have en : n + 1 - 1 = n := by omega
      rw [en] at b2
      rw [b2]
      exact ih (by omega) (by omega) (fun k a b => h k a (by omega))
theorem lesser_is (S : sg) (l : Int) : ∀ n, ¬ lesser S l n = 0 → (lv S (lesser S l n) : Int) < l ∧ ¬ lv S (lesser S l n) = 66 ∧ ¬ lv S (lesser S l n) = 77 ∧ ∀ k, lesser S l n < k → k ≤ n → ¬ lv S k = 66 ∧ ¬ lv S k = 77 ∧ ¬ (lv S k : Int) < l := by
  intro n
  induction n with
  | zero => intro h; exact absurd rfl h
  | succ n ih =>
    have e : lesser S l (n + 1) = if lv S (n + 1) = 66 ∨ lv S (n + 1) = 77 then 0 else if (lv S (n + 1) : Int) < l then n + 1 else lesser S l n := rfl
    rw [e]
    by_cases c1 : lv S (n + 1) = 66 ∨ lv S (n + 1) = 77
    · rw [if_pos c1]; intro h; exact absurd rfl h
    · rw [if_neg c1]
      by_cases c2 : (lv S (n + 1) : Int) < l
      · rw [if_pos c2]
        intro _
        exact ⟨c2, fun q => c1 (Or.inl q), fun q => c1 (Or.inr q), fun k a b => by omega⟩
      · rw [if_neg c2]
        intro h
        obtain ⟨q1, q2, q3, q4⟩ := ih h
        refine ⟨q1, q2, q3, fun k a b => ?_⟩
        by_cases ek : k = n + 1
        · rw [ek]; exact ⟨fun q => c1 (Or.inl q), fun q => c1 (Or.inr q), c2⟩
        · exact q4 k a (by omega)
theorem lastNN_is (S : sg) : ∀ n, ¬ lastNN S n = 0 → ¬ lv S (lastNN S n) = 88 ∧ ∀ k, lastNN S n < k → k ≤ n → lv S k = 88 := by
  intro n
  induction n with
  | zero => intro h; exact absurd rfl h
  | succ n ih =>
    have e : lastNN S (n + 1) = if lv S (n + 1) = 88 then lastNN S n else n + 1 := rfl
    rw [e]
    by_cases c1 : lv S (n + 1) = 88
    · rw [if_pos c1]
      intro h
      obtain ⟨q1, q2⟩ := ih h
      refine ⟨q1, fun k a b => ?_⟩
      by_cases ek : k = n + 1
      · rw [ek]; exact c1
      · exact q2 k a (by omega)
    · rw [if_neg c1]
      intro _
      exact ⟨c1, fun k a b => by omega⟩
theorem WS1.cp (F : WF S) : ∀ i, 0 < i → cpa S i < i := cpa_lt F.2.1
/-- the chain of the last item that lies holds what a new one is below -/
theorem chain_p (W : WS1 S) (F : WF S) {p : Nat} (hp : 1 ≤ p) (lp : lies S p = true) {l : Int} (hl : (lv S p : Int) < l) (hb : ∀ k, p < k → k ≤ sN S → lies S k = true → l ≤ lv S k ∧ lv S k ≤ 49) : ∀ c, p ≤ c → c ≤ sN S → lies S c = true → onc S c p = true := by
  have cp := WS1.cp F
  intro c
  induction c using Nat.strongRecOn with
  | _ c ih =>
    intro h1 h2 lc
    by_cases e : c = p
    · rw [e]; exact onc_self cp (by omega)
    · obtain ⟨b1, b2⟩ := hb c (by omega) h2 lc
      obtain ⟨a1, a2, a3, a4, -⟩ := W c (by omega) h2
      have pl := lies_of lp
      have lvp : 1 ≤ lv S p := by
        have := (W p hp (by omega)).1
        omega
      obtain ⟨d1, d2, d3, d4, d5, d6, d7, d8⟩ := a4 (by omega)
      have ec : cpa S c = pa S c := cpa_p (by omega)
      have hlt := cp c (by omega)
      have ge : p ≤ pa S c := by
        by_cases q : p ≤ pa S c
        · exact q
        · have := d8 p (by omega) (by omega) lp
          omega
      refine onc_up cp (by omega) ?_
      rw [ec]
      rw [ec] at hlt
      exact ih _ hlt ge (by omega) (lies_mk (by omega))
end Ws1
