/-! what holds of every state: clauses -/
def WS2 (S : sg) : Prop :=
  (∀ i, ¬ tb S i = 0 → 1 ≤ i ∧ i ≤ sN S ∧ 2 ≤ lv S i ∧ lv S i ≤ 49 ∧ rd S i = 0 ∧ 1 ≤ mo S i) ∧
  (∀ i, tabs S i ≤ 3) ∧ (∀ i, tb S i = 2 → tabs S i = 1) ∧
  (∀ i, ¬ sy S i = 0 → 8 ≤ us S i ∧ us S i ≤ 11) ∧
  (∀ i, (va S i = 0 → vl S i = 0) ∧ (¬ va S i = 0 → 1 ≤ i ∧ i ≤ sN S ∧ 3 ≤ us S i ∧ us S i ≤ 8 ∧ aside S i = false ∧ room (dg S i) (vl S i).toInt = true)) ∧
  (∀ i, ¬ ot S i = 0 → 1 ≤ i ∧ i ≤ sN S ∧ ot S i < i ∧ lv S i ≤ 49 ∧ lv S (ot S i) = lv S i ∧ cpa S (ot S i) = cpa S i ∧ ot S (ot S i) = 0 ∧ tb S (ot S i) = 0 ∧ rd S (ot S i) = 1 ∧ rd S i = 0 ∧ na S i = 0 ∧ na S (ot S i) = 0) ∧
  (∀ i, ¬ rd S i = 0 → 1 ≤ i ∧ ∃ k, 1 ≤ k ∧ k ≤ sN S ∧ ot S k = i) ∧
  (∀ i, ¬ na S i = 0 → 1 ≤ i ∧ i ≤ sN S ∧ lv S i = 1 ∧ ot S i = 0 ∧ rd S i = 0) ∧
  (∀ i, (rn S i = 0 → rm S i = 0) ∧ (¬ rn S i = 0 → 1 ≤ i ∧ i ≤ sN S ∧ lv S i = 66 ∧ ¬ rm S i = 0 ∧ rn S i ≤ rm S i ∧ rm S i ≤ sN S ∧ (2 ≤ lv S (rn S i) ∧ lv S (rn S i) ≤ 49) ∧ (2 ≤ lv S (rm S i) ∧ lv S (rm S i) ≤ 49) ∧ rc S (rn S i) = rc S i ∧ rc S (rm S i) = rc S i ∧ bel S (rm S i) (rn S i) = false)) ∧
  (∀ i, ¬ rg S i = 0 → lv S i = 88)
section Ws3
variable {S S' : sg} {l u s : Nat}
theorem WS2.add (W : WS2 S) (Z : WZ S) (F : WF S) (F' : WF (sadd S l u s)) : WS2 (sadd S l u s) := by
  have hp := WS1.cp F
  have hp' := WS1.cp F'
  obtain ⟨c1, c2, c3, c4, c5, c6, c7, c8, c9, c10⟩ := W
  have o : ∀ a, 5 < a → a ≠ 17 → a ≠ 21 → ∀ j, (sadd S l u s).1 a j = S.1 a j := fun a h0 h1 h2 j => sadd_o h0 h1 h2 j
  have tb' : ∀ j, tb (sadd S l u s) j = tb S j := o 6 (by decide) (by decide) (by decide)
  have mo' : ∀ j, mo (sadd S l u s) j = mo S j := o 8 (by decide) (by decide) (by decide)
  have sy' : ∀ j, sy (sadd S l u s) j = sy S j := o 10 (by decide) (by decide) (by decide)
  have va' : ∀ j, va (sadd S l u s) j = va S j := o 11 (by decide) (by decide) (by decide)
  have rg' : ∀ j, rg (sadd S l u s) j = rg S j := o 12 (by decide) (by decide) (by decide)
  have rn' : ∀ j, rn (sadd S l u s) j = rn S j := o 13 (by decide) (by decide) (by decide)
  have rm' : ∀ j, rm (sadd S l u s) j = rm S j := o 14 (by decide) (by decide) (by decide)
  have ot' : ∀ j, ot (sadd S l u s) j = ot S j := o 15 (by decide) (by decide) (by decide)
  have na' : ∀ j, na (sadd S l u s) j = na S j := o 16 (by decide) (by decide) (by decide)
  have rd' : ∀ j, rd (sadd S l u s) j = rd S j := o 22 (by decide) (by decide) (by decide)
  have vl' : ∀ j, vl (sadd S l u s) j = vl S j := fun j => rfl
  have lvo : ∀ i, i ≤ sN S → lv (sadd S l u s) i = lv S i := fun i hi => by rw [sadd_lv, if_neg (by omega)]
  have uso : ∀ i, i ≤ sN S → us (sadd S l u s) i = us S i := fun i hi => by rw [sadd_us, if_neg (by omega)]
  have dgo' : ∀ i, i ≤ sN S → dg (sadd S l u s) i = dg S i := fun i hi => by rw [sadd_dg, if_neg (by omega)]
  have rco : ∀ i, i ≤ sN S → rc (sadd S l u s) i = rc S i := fun i hi => by rw [sadd_rc, if_neg (by omega)]
  have N' : sN (sadd S l u s) = sN S + 1 := rfl
  have z : ∀ a i, sN S < i → 1 ≤ a → a ≤ 16 ∨ a = 21 ∨ a = 22 → S.1 a i = 0 := Z
  have tbz : ∀ i, sN S < i → tb S i = 0 := fun i hi => z 6 i hi (by decide) (by decide)
  have cpz : ∀ i, sN S + 1 < i → cpa (sadd S l u s) i = 0 := fun i hi => by
    unfold cpa
    have : pa (sadd S l u s) i = 0 := by rw [sadd_pa, if_neg (by omega)]; exact z 4 i (by omega) (by decide) (by decide)
    rw [this]; exact ite_self _
  have tabo : ∀ i, i ≤ sN S → tabs (sadd S l u s) i = tabs S i := fun i hi => chn_eq hp' hp (fun j _ hj => ⟨sadd_cpa_old hj, by rw [tb']⟩) i hi
  have aso : ∀ i, i ≤ sN S → aside (sadd S l u s) i = aside S i := fun i hi => chk_eq hp' hp (fun j _ hj => ⟨sadd_cpa_old hj, by rw [ot']⟩) i hi
  have belo : ∀ i j, 1 ≤ i → i ≤ sN S → bel (sadd S l u s) i j = bel S i j := fun i j h1 hi => by
    unfold bel
    rw [sadd_cpa_old hi]
    exact chk_eq hp' hp (fun k _ hk => ⟨sadd_cpa_old hk, rfl⟩) _ (by have := hp i (by omega); omega)
  have tabn : ∀ i, sN S < i → tabs (sadd S l u s) i ≤ 3 := fun i hi => by
    rw [tabs_step hp' (by omega), tb', if_neg (by rw [tbz i hi]; omega), Nat.zero_add]
    by_cases e : i = sN S + 1
    · have := hp' i (by omega)
      rw [tabo _ (by omega)]
      exact c2 _
    · rw [cpz i (by omega)]
      exact Nat.zero_le _
  refine ⟨fun i h => ?_, fun i => ?_, fun i h => ?_, fun i h => ?_, fun i => ⟨fun h => ?_, fun h => ?_⟩, fun i h => ?_, fun i h => ?_, fun i h => ?_, fun i => ⟨fun h => ?_, fun h => ?_⟩, fun i h => ?_⟩
  · rw [tb'] at h
    obtain ⟨d1, d2, d3, d4, d5, d6⟩ := c1 i h
    rw [lvo i d2, rd', mo', N']
    exact ⟨d1, by omega, d3, d4, d5, d6⟩
  · by_cases hi : i ≤ sN S
    · rw [tabo i hi]; exact c2 i
    · exact tabn i (by omega)
  · rw [tb'] at h
    have hi : i ≤ sN S := (c1 i (by omega)).2.1
    rw [tabo i hi]; exact c3 i h
  · rw [sy'] at h
    have hi : i ≤ sN S := by
      by_cases q : i ≤ sN S
      · exact q
      · exact absurd (z 10 i (by omega) (by decide) (by decide)) h
    rw [uso i hi]; exact c4 i h
  · rw [va'] at h; exact (c5 i).1 h
  · rw [va'] at h
    obtain ⟨d1, d2, d3, d4, d5, d6⟩ := (c5 i).2 h
    rw [uso i d2, aso i d2, dgo' i d2, N']
    exact ⟨d1, by omega, d3, d4, d5, d6⟩
  · rw [ot'] at h
    obtain ⟨d1, d2, d3, d4, d5, d6, d7, d8, d9, d10, d11, d12⟩ := c6 i h
    rw [ot', ot', lvo i d2, lvo _ (by omega), sadd_cpa_old d2, sadd_cpa_old (i := ot S i) (by omega), tb', rd', rd', na', na', N']
    exact ⟨d1, by omega, d3, d4, d5, d6, d7, d8, d9, d10, d11, d12⟩
  · rw [rd'] at h
    obtain ⟨k0, k, k1, k2, k3⟩ := c7 i h
    exact ⟨k0, k, k1, by rw [N']; omega, by rw [ot']; exact k3⟩
  · rw [na'] at h
    obtain ⟨d1, d2, d3, d4, d5⟩ := c8 i h
    rw [lvo i d2, ot', rd', N']
    exact ⟨d1, by omega, d3, d4, d5⟩
  · rw [rn'] at h; rw [rm']; exact (c9 i).1 h
  · rw [rn'] at h
    obtain ⟨d1, d2, d3, d4, d5, d6, d7, d8, d9, d10, d11⟩ := (c9 i).2 h
    rw [rn', rm', lvo i d2, lvo _ (by omega), lvo _ d6, rco _ d6, rco i d2, rco (rn S i) (by omega), belo _ _ (by omega) d6, N']
    exact ⟨d1, by omega, d3, d4, d5, by omega, d7, d8, d9, d10, d11⟩
  · rw [rg'] at h
    have hi : i ≤ sN S := by
      by_cases q : i ≤ sN S
      · exact q
      · exact absurd (z 12 i (by omega) (by decide) (by decide)) h
    rw [lvo i hi]; exact c10 i h
theorem WS2.ext {i v : Nat} (W : WS2 S) (h1 : 1 ≤ i) (h2 : i ≤ sN S) (hl : lv S i = 1) (ho : ot S i = 0) (hr : rd S i = 0) : WS2 (sset S 16 i v) := by
  obtain ⟨c1, c2, c3, c4, c5, c6, c7, c8, c9, c10⟩ := W
  have na' : ∀ j, na (sset S 16 i v) j = if j = i then v else na S j := fun j => by
    show (if 16 = 16 ∧ j = i then v else if 16 = 17 then 0 else S.1 16 j) = _
    by_cases q : j = i
    · rw [if_pos ⟨rfl, q⟩, if_pos q]
    · rw [if_neg (fun z => q z.2), if_neg q]; rfl
  refine ⟨c1, c2, c3, c4, c5, fun j h => ?_, c7, fun j h => ?_, c9, c10⟩
  · obtain ⟨d1, d2, d3, d4, d5, d6, d7, d8, d9, d10, d11, d12⟩ := c6 j h
    have n1 : ¬ j = i := fun e => h (by rw [e]; exact ho)
    have n2 : ¬ ot S j = i := fun e => by rw [e, hr] at d9; cases d9
    refine ⟨d1, d2, d3, d4, d5, d6, d7, d8, d9, d10, ?_, ?_⟩
    · rw [na', if_neg n1]; exact d11
    · rw [na']
      show (if ot S j = i then v else na S (ot S j)) = 0
      rw [if_neg n2]; exact d12
  · rw [na'] at h
    by_cases e : j = i
    · rw [e]; exact ⟨h1, h2, hl, ho, hr⟩
    · rw [if_neg e] at h; exact c8 j h
theorem WS2.red {i o : Nat} (W : WS2 S) (F : WF S) (h1 : 1 ≤ i) (h2 : i ≤ sN S) (ho1 : 1 ≤ o) (ok : okR S i o = true) : WS2 (sset (sset S 15 i o) 22 o 1) := by
  obtain ⟨k1, k2, k3, k4, k5, k6, k7, k8, k9, k10, k11, k12⟩ := of_decide_eq_true ok
  obtain ⟨c1, c2, c3, c4, c5, c6, c7, c8, c9, c10⟩ := W
  have hp := WS1.cp F
  have ot' : ∀ j, ot (sset (sset S 15 i o) 22 o 1) j = if j = i then o else ot S j := fun j => by
    show (if 15 = 22 ∧ j = o then 1 else if 15 = 17 then 0 else if 15 = 15 ∧ j = i then o else if 15 = 17 then 0 else S.1 15 j) = _
    rw [if_neg (by omega), if_neg (by omega)]
    by_cases q : j = i
    · rw [if_pos ⟨rfl, q⟩, if_pos q]
    · rw [if_neg (fun z => q z.2), if_neg q]; rfl
  have rd' : ∀ j, rd (sset (sset S 15 i o) 22 o 1) j = if j = o then 1 else rd S j := fun j => by
    show (if 22 = 22 ∧ j = o then 1 else if 22 = 17 then 0 else if 22 = 15 ∧ j = i then o else if 22 = 17 then 0 else S.1 22 j) = _
    by_cases q : j = o
    · rw [if_pos ⟨rfl, q⟩, if_pos q]
    · rw [if_neg (fun z => q z.2), if_neg q]; rfl
  have hv : ∀ k, i ≤ k → k ≤ sN S → ¬ va S k = 0 → ¬ (k = i ∨ bel S k i = true) := by
    intro k a b c d
    have hf : ¬ rany (hvl S i) i (sN S + 1 - i) = true := by rw [k12]; decide
    apply hf
    rw [rany_iff]
    exact ⟨k, a, by omega, decide_eq_true ⟨c, d⟩⟩
  refine ⟨fun j h => ?_, c2, c3, c4, fun j => ⟨(c5 j).1, fun h => ?_⟩, fun j h => ?_, fun j h => ?_, fun j h => ?_, c9, c10⟩
  · obtain ⟨d1, d2, d3, d4, d5, d6⟩ := c1 j h
    refine ⟨d1, d2, d3, d4, ?_, d6⟩
    have : ¬ j = o := fun e => by
      have : tb S j = 0 := by rw [e]; exact k6
      exact h this
    rw [rd', if_neg this]; exact d5
  · obtain ⟨d1, d2, d3, d4, d5, d6⟩ := (c5 j).2 h
    refine ⟨d1, d2, d3, d4, ?_, d6⟩
    -- j isn't below i
    have nb : onc S j i = false := by
      cases q : onc S j i with
      | false => rfl
      | true =>
        exfalso
        have le := onc_le hp _ _ q
        refine hv j le.2 d2 h ?_
        rcases onc_or hp q with z | z
        · exact Or.inl z.symm
        · exact Or.inr z
    have gen : ∀ x, onc S x i = false → aside S x = false → aside (sset (sset S 15 i o) 22 o 1) x = false := by
      intro x
      induction x using Nat.strongRecOn with
      | _ x ih =>
        intro q1 q2
        by_cases h0 : x = 0
        · subst h0; rfl
        · have nx := onc_no hp (by omega) q1
          have ax := aside_up hp (by omega) q2
          have := ih _ (hp x (by omega)) nx.2 ax.1
          unfold aside at this ⊢
          rw [chk_step (p := cpa (sset (sset S 15 i o) 22 o 1)) hp (by omega), Bool.or_eq_false_iff]
          refine ⟨decide_eq_false ?_, this⟩
          rw [ot', if_neg (fun e => nx.1 e.symm)]
          intro q; exact q ax.2
    exact gen j nb d5
  · rw [ot'] at h
    by_cases e : j = i
    · subst e
      have e1 : ot (sset (sset S 15 j o) 22 o 1) j = o := by rw [ot', if_pos rfl]
      rw [e1]
      refine ⟨h1, h2, k1, k3, k2, k4, ?_, k6, ?_, ?_, k9, k10⟩
      · rw [ot', if_neg (by omega)]; exact k5
      · rw [rd', if_pos rfl]
      · rw [rd', if_neg (by omega)]; exact k8
    · rw [if_neg e] at h
      obtain ⟨d1, d2, d3, d4, d5, d6, d7, d8, d9, d10, d11, d12⟩ := c6 j h
      have e1 : ot (sset (sset S 15 i o) 22 o 1) j = ot S j := by rw [ot', if_neg e]
      rw [e1]
      have n1 : ¬ ot S j = i := fun q => by rw [q, k8] at d9; cases d9
      have n2 : ¬ j = o := fun q => by rw [q] at h; exact h k5
      refine ⟨d1, d2, d3, d4, d5, d6, ?_, d8, ?_, ?_, d11, d12⟩
      · rw [ot', if_neg n1]; exact d7
      · rw [rd']; split
        · rfl
        · exact d9
      · rw [rd', if_neg n2]; exact d10
  · rw [rd'] at h
    by_cases e : j = o
    · exact ⟨by omega, i, h1, h2, by rw [ot', if_pos rfl, e]⟩
    · rw [if_neg e] at h
      obtain ⟨x0, k, x1, x2, x3⟩ := c7 j h
      refine ⟨x0, k, x1, x2, ?_⟩
      have : ¬ k = i := fun q => by
        rw [q, k7] at x3
        omega
      rw [ot', if_neg this]; exact x3
  · obtain ⟨d1, d2, d3, d4, d5⟩ := c8 j h
    have n1 : ¬ j = i := fun e => h (by rw [e]; exact k9)
    have n2 : ¬ j = o := fun e => h (by rw [e]; exact k10)
    refine ⟨d1, d2, d3, ?_, ?_⟩
    · rw [ot', if_neg n1]; exact d4
    · rw [rd', if_neg n2]; exact d5
theorem WS2.k2 {i v : Nat} (W : WS2 S) (hu : 8 ≤ us S i ∧ us S i ≤ 11) : WS2 (sset S 10 i v) := by
  obtain ⟨c1, c2, c3, c4, c5, c6, c7, c8, c9, c10⟩ := W
  refine ⟨c1, c2, c3, fun j h => ?_, c5, c6, c7, c8, c9, c10⟩
  by_cases e : j = i
  · rw [e]; exact hu
  · have : ¬ sy S j = 0 := by
      have e2 : sy (sset S 10 i v) j = sy S j := by
        show (if 10 = 10 ∧ j = i then v else if 10 = 17 then 0 else S.1 10 j) = _
        rw [if_neg (fun z => e z.2)]; rfl
      rw [← e2]; exact h
    exact c4 j this
theorem WS2.k3 {i : Nat} {a : Int32} (W : WS2 S) (h1 : 1 ≤ i) (h2 : i ≤ sN S) (hu : 3 ≤ us S i ∧ us S i ≤ 8) (ha : aside S i = false) (hr : room (dg S i) a.toInt = true) : WS2 (svl (sset S 11 i 1) i a) := by
  obtain ⟨c1, c2, c3, c4, c5, c6, c7, c8, c9, c10⟩ := W
  refine ⟨c1, c2, c3, c4, fun j => ⟨fun h => ?_, fun h => ?_⟩, c6, c7, c8, c9, c10⟩
  · by_cases e : j = i
    · exfalso
      have e2 : va (svl (sset S 11 i 1) i a) j = 1 := by
        show (if 11 = 11 ∧ j = i then 1 else if 11 = 17 then 0 else S.1 11 j) = _
        rw [if_pos ⟨rfl, e⟩]
      rw [e2] at h; cases h
    · have e2 : va (svl (sset S 11 i 1) i a) j = va S j := by
        show (if 11 = 11 ∧ j = i then 1 else if 11 = 17 then 0 else S.1 11 j) = _
        rw [if_neg (fun z => e z.2)]; rfl
      rw [e2] at h
      show (if 0 = 0 ∧ j = i then a else S.2 0 j) = 0
      rw [if_neg (fun z => e z.2)]
      exact (c5 j).1 h
  · by_cases e : j = i
    · rw [e]
      refine ⟨h1, h2, hu.1, hu.2, ha, ?_⟩
      have e3 : vl (svl (sset S 11 i 1) i a) i = a := by
        show (if 0 = 0 ∧ i = i then a else S.2 0 i) = a
        rw [if_pos ⟨rfl, rfl⟩]
      rw [e3]; exact hr
    · have e2 : va (svl (sset S 11 i 1) i a) j = va S j := by
        show (if 11 = 11 ∧ j = i then 1 else if 11 = 17 then 0 else S.1 11 j) = _
        rw [if_neg (fun z => e z.2)]; rfl
      rw [e2] at h
      obtain ⟨d1, d2, d3, d4, d5, d6⟩ := (c5 j).2 h
      refine ⟨d1, d2, d3, d4, d5, ?_⟩
      have e3 : vl (svl (sset S 11 i 1) i a) j = vl S j := by
        show (if 0 = 0 ∧ j = i then a else S.2 0 j) = _
        rw [if_neg (fun z => e z.2)]; rfl
      rw [e3]; exact d6
theorem WS2.k4 {i : Nat} {a b : Int32} (W : WS2 S) (hl : lv S i = 88) : WS2 (srg S i a b) := by
  obtain ⟨c1, c2, c3, c4, c5, c6, c7, c8, c9, c10⟩ := W
  have vl' : ∀ j, vl (srg S i a b) j = vl S j := fun j => by
    show (if 0 = 1 + _ ∧ j = i then a else if 0 = 11 + _ ∧ j = i then b else S.2 0 j) = _
    rw [if_neg (by omega), if_neg (by omega)]; rfl
  refine ⟨c1, c2, c3, c4, fun j => ⟨fun h => ?_, fun h => ?_⟩, c6, c7, c8, c9, fun j h => ?_⟩
  · rw [vl']; exact (c5 j).1 h
  · rw [vl']; exact (c5 j).2 h
  · by_cases e : j = i
    · rw [e]; exact hl
    · have e2 : rg (srg S i a b) j = rg S j := by
        show (if 12 = 12 ∧ j = i then _ else if 12 = 17 then 0 else S.1 12 j) = _
        rw [if_neg (fun z => e z.2)]; rfl
      rw [e2] at h
      exact c10 j h
theorem WS2.k5 {i a b : Nat} (W : WS2 S) (h1 : 1 ≤ i) (h2 : i ≤ sN S) (ha : 1 ≤ a) (hb : b ≤ sN S) (ok : okPt S i a b = true) : WS2 (sset (sset S 13 i a) 14 i b) := by
  obtain ⟨k1, k2, k3, k4, k5, k6, k7, k8⟩ := of_decide_eq_true ok
  obtain ⟨c1, c2, c3, c4, c5, c6, c7, c8, c9, c10⟩ := W
  have rn' : ∀ j, rn (sset (sset S 13 i a) 14 i b) j = if j = i then a else rn S j := fun j => by
    show (if 13 = 14 ∧ j = i then b else if 13 = 17 then 0 else if 13 = 13 ∧ j = i then a else if 13 = 17 then 0 else S.1 13 j) = _
    rw [if_neg (by omega), if_neg (by omega)]
    by_cases q : j = i
    · rw [if_pos ⟨rfl, q⟩, if_pos q]
    · rw [if_neg (fun z => q z.2), if_neg q]; rfl
  have rm' : ∀ j, rm (sset (sset S 13 i a) 14 i b) j = if j = i then b else rm S j := fun j => by
    show (if 14 = 14 ∧ j = i then b else if 14 = 17 then 0 else if 14 = 13 ∧ j = i then a else if 14 = 17 then 0 else S.1 14 j) = _
    by_cases q : j = i
    · rw [if_pos ⟨rfl, q⟩, if_pos q]
    · rw [if_neg (fun z => q z.2), if_neg q]; rfl
  refine ⟨c1, c2, c3, c4, c5, c6, c7, c8, fun j => ⟨fun h => ?_, fun h => ?_⟩, c10⟩
  · rw [rn'] at h
    rw [rm']
    by_cases e : j = i
    · rw [if_pos e] at h; omega
    · rw [if_neg e] at h ⊢; exact (c9 j).1 h
  · rw [rn'] at h
    by_cases e : j = i
    · have en : rn (sset (sset S 13 i a) 14 i b) j = a := by rw [rn', if_pos e]
      have em : rm (sset (sset S 13 i a) 14 i b) j = b := by rw [rm', if_pos e]
      rw [en, em, e]
      exact ⟨h1, h2, k1, by omega, k7, hb, k3, k5, k4, k6, k8⟩
    · have en : rn (sset (sset S 13 i a) 14 i b) j = rn S j := by rw [rn', if_neg e]
      have em : rm (sset (sset S 13 i a) 14 i b) j = rm S j := by rw [rm', if_neg e]
      rw [if_neg e] at h
      rw [en, em]
      exact (c9 j).2 h
theorem WS2.k1 {i t a m : Nat} {d : Bool} (W : WS2 S) (F : WF S) (Z : WZ S) (h1 : 1 ≤ i) (h2 : i ≤ sN S) (ht : t = 1 ∨ t = 2) (hd : t = 2 → d = true) (hm : 1 ≤ m) (ok : okT S i d = true) : WS2 (stab S i t a m) := by
  obtain ⟨k1, k2, k3, k4, k5⟩ := of_decide_eq_true ok
  rw [rall_iff] at k5
  obtain ⟨c1, c2, c3, c4, c5, c6, c7, c8, c9, c10⟩ := W
  have hp := WS1.cp F
  have tb' : ∀ j, tb (stab S i t a m) j = if j = i then t else tb S j := fun j => by
    show (if 6 = 6 ∧ j = i then t else if 6 = 7 ∧ j = i then a else if 6 = 8 ∧ j = i then m else if 6 = 9 ∧ j = i then m else if 6 = 17 then 0 else S.1 6 j) = _
    by_cases q : j = i
    · rw [if_pos ⟨rfl, q⟩, if_pos q]
    · rw [if_neg (fun z => q z.2), if_neg (by omega), if_neg (by omega), if_neg (by omega), if_neg (by omega), if_neg q]; rfl
  have mo' : ∀ j, mo (stab S i t a m) j = if j = i then m else mo S j := fun j => by
    show (if 8 = 6 ∧ j = i then t else if 8 = 7 ∧ j = i then a else if 8 = 8 ∧ j = i then m else if 8 = 9 ∧ j = i then m else if 8 = 17 then 0 else S.1 8 j) = _
    rw [if_neg (by omega), if_neg (by omega)]
    by_cases q : j = i
    · rw [if_pos ⟨rfl, q⟩, if_pos q]
    · rw [if_neg (fun z => q z.2), if_neg (by omega), if_neg (by omega), if_neg q]; rfl
  have hp' : ∀ i', 0 < i' → cpa (stab S i t a m) i' < i' := hp
  -- one table more around what is below it
  have tabs' : ∀ x, tabs (stab S i t a m) x = tabs S x + if onc S x i = true then 1 else 0 := by
    intro x
    induction x using Nat.strongRecOn with
    | _ x ih =>
      by_cases h0 : x = 0
      · subst h0; rfl
      · have ex := ih _ (hp x (by omega))
        have s1 := tabs_step (S := stab S i t a m) hp' (j := x) (by omega)
        have s2 := tabs_step hp (j := x) (by omega)
        have ec : cpa (stab S i t a m) x = cpa S x := rfl
        rw [ec, ex, tb'] at s1
        rw [s1, s2, onc_step (x := x) (j := i) hp (by omega)]
        by_cases e : x = i
        · subst e
          have no : onc S (cpa S x) x = false := by
            cases q : onc S (cpa S x) x with
            | false => rfl
            | true => have := onc_le hp _ _ q; have := hp x (by omega); omega
          rw [if_pos rfl, if_pos (by omega), if_neg (c := ¬ tb S x = 0) (by omega), no, decide_eq_true rfl]
          simp only [Bool.true_or, if_true, Bool.false_eq_true, if_false]
          omega
        · rw [if_neg e, decide_eq_false e]
          simp only [Bool.false_or]
          omega
  have inN : ∀ x, onc S x i = true → x ≤ sN S := by
    intro x q
    by_cases hx : x ≤ sN S
    · exact hx
    · exfalso
      have l0 : lv S x = 0 := Z 1 x (by omega) (by decide) (by decide)
      have p0 : pa S x = 0 := Z 4 x (by omega) (by decide) (by decide)
      rcases onc_or hp q with e | e
      · omega
      · have : cpa S x = 0 := by unfold cpa; rw [p0]; exact ite_self _
        rw [this] at e; cases e
  have sub : ∀ x, onc S x i = true → tabs S x < 3 ∧ ¬ tb S x = 2 := by
    intro x q
    have le := onc_le hp _ _ q
    have := of_decide_eq_true (k5 x le.2 (by have := inN x q; omega))
    apply this
    rcases onc_or hp q with e | e
    · exact Or.inl e.symm
    · exact Or.inr e
  refine ⟨fun j h => ?_, fun j => ?_, fun j h => ?_, c4, c5, fun j h => ?_, c7, c8, c9, c10⟩
  · rw [tb'] at h
    by_cases e : j = i
    · rw [mo', if_pos e, e]
      exact ⟨h1, h2, k1.1, k1.2, k3, hm⟩
    · rw [if_neg e] at h
      rw [mo', if_neg e]
      exact c1 j h
  · rw [tabs']
    by_cases q : onc S j i = true
    · rw [if_pos q]; have := (sub j q).1; omega
    · rw [if_neg q]; exact c2 j
  · rw [tb'] at h
    rw [tabs']
    by_cases e : j = i
    · rw [if_pos e] at h
      rw [e, onc_self hp (by omega), if_pos rfl, k4 (hd h)]
    · rw [if_neg e] at h
      by_cases q : onc S j i = true
      · exact absurd h (sub j q).2
      · rw [if_neg q, c3 j h]
  · obtain ⟨d1, d2, d3, d4, d5, d6, d7, d8, d9, d10, d11, d12⟩ := c6 j h
    refine ⟨d1, d2, d3, d4, d5, d6, d7, ?_, d9, d10, d11, d12⟩
    have : ¬ ot S j = i := fun q => by rw [q, k3] at d9; cases d9
    rw [tb']
    show (if ot S j = i then t else tb S (ot S j)) = 0
    rw [if_neg this]; exact d8
end Ws3
