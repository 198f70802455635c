section Ws2
variable {S : sg} {l u s : Nat}
theorem WS1.add (W : WS1 S) (Z : WZ S) (F : WF S) (F' : WF (sadd S l u s)) (ok1 : okL l = true) (ok2 : okU l u s = true) (ok3 : okP S l = true) : WS1 (sadd S l u s) := by
  have hp := WS1.cp F
  have hp' := WS1.cp F'
  have wr := W.wr
  have hle := aro_le wr (l : Int)
  have k1 := of_decide_eq_true ok1
  have k3 := of_decide_eq_true ok3
  -- what stays
  have lvo : ∀ i, i ≤ sN S → lv (sadd S l u s) i = lv S i := fun i hi => by rw [sadd_lv, if_neg (by omega)]
  have uso : ∀ i, i ≤ sN S → us (sadd S l u s) i = us S i := fun i hi => by rw [sadd_us, if_neg (by omega)]
  have dgo' : ∀ i, i ≤ sN S → dg (sadd S l u s) i = dg S i := fun i hi => by rw [sadd_dg, if_neg (by omega)]
  have pao : ∀ i, i ≤ sN S → pa (sadd S l u s) i = pa S i := fun i hi => by rw [sadd_pa, if_neg (by omega)]
  have rco : ∀ i, i ≤ sN S → rc (sadd S l u s) i = rc S i := fun i hi => by rw [sadd_rc, if_neg (by omega)]
  have lio : ∀ i, i ≤ sN S → lies (sadd S l u s) i = lies S i := fun i hi => by unfold lies; rw [lvo i hi]
  have opo : ∀ j, j ≤ sN S → opn (sadd S l u s) j = opn S j := opn_eq (fun i _ hi => lio i hi)
  have ono : ∀ x j, x ≤ sN S → onc (sadd S l u s) x j = onc S x j := fun x j hx => chk_eq hp' hp (fun i _ hi => ⟨sadd_cpa_old hi, rfl⟩) x hx
  have lbo : ∀ i, lb (sadd S l u s) i = if i = aro S l ∧ ¬ aro S l = 0 ∧ l ≤ 49 then l else lb S i := fun i => sadd_lb i
  have N' : sN (sadd S l u s) = sN S + 1 := rfl
  -- inner: what it is below
  have inn : 2 ≤ l → l ≤ 49 → aro S l = lesser S l (sN S) := fun h1 h2 => by
    unfold aro
    rw [if_neg (by omega), if_neg (by omega), if_neg (by omega), if_neg (by omega)]
  intro i h1 h2
  rw [N'] at h2
  by_cases e : i = sN S + 1
  · -- the new one
    have l' : lv (sadd S l u s) i = l := by rw [sadd_lv, if_pos e]
    have u' : us (sadd S l u s) i = u := by rw [sadd_us, if_pos e]
    have d' : dg (sadd S l u s) i = s := by rw [sadd_dg, if_pos e]
    have p' : pa (sadd S l u s) i = if l = 66 then 0 else aro S l := by rw [sadd_pa, if_pos e]
    have r' : rc (sadd S l u s) i = if l = 1 ∨ l = 77 then i else rc S (sN S) := by rw [sadd_rc, if_pos e, e]
    have ei : i - 1 = sN S := by omega
    rw [l', u', d']
    have n0 : ¬ (l = 1 ∨ l = 77) → ¬ aro S l = 0 ∧ ¬ sN S = 0 := fun q => okP_ne ok3 (fun z => q (Or.inl z)) (fun z => q (Or.inr z))
    -- the record of what is around
    have key : ¬ (l = 1 ∨ l = 77) → rc S (aro S l) = rc S (sN S) ∧ (l = 88 → 3 ≤ us S (aro S l) ∧ us S (aro S l) ≤ 8) ∧ (¬ l = 88 → us S (aro S l) = 0) := by
      intro q
      obtain ⟨q1, q2⟩ := n0 q
      have kk : (l = 88 ∧ 3 ≤ us S (aro S l) ∧ us S (aro S l) ≤ 8) ∨ (¬ l = 88 ∧ us S (aro S l) = 0) := by
        rcases k3 with z | z | ⟨z, z2⟩
        · omega
        · omega
        · rcases z2 with z2 | z2
          · left; exact ⟨by omega, z2.2⟩
          · right; exact ⟨by omega, z2.2.1⟩
      refine ⟨?_, fun z => by omega, fun z => by omega⟩
      by_cases c66 : l = 66
      · have ea : aro S l = topRec S := by unfold aro; rw [if_neg (by omega), if_pos (by omega)]
        rw [ea] at q1 ⊢
        unfold topRec at q1 ⊢
        rw [if_neg q2] at q1 ⊢
        by_cases c1 : lv S (rc S (sN S)) = 1
        · rw [if_pos c1]
          have := wr (sN S) (by omega) (Nat.le_refl _)
          exact (W _ this.1 this.2).2.2.2.2.2.1 (Or.inl c1)
        · rw [if_neg c1] at q1; exact absurd rfl q1
      · by_cases c88 : l = 88
        · have ea : aro S l = lastNN S (sN S) := by unfold aro; rw [if_neg (by omega), if_neg (by omega), if_neg (by omega), if_pos (by omega)]
          rw [ea] at q1 ⊢
          obtain ⟨w1, w2⟩ := lastNN_is S (sN S) q1
          refine (rc_same W (by omega) (sN S) (lastNN_le S _) (Nat.le_refl _) (fun k a b => ?_)).symm
          rw [w2 k a b]; omega
        · have ea := inn (by omega) (by omega)
          rw [ea] at q1 ⊢
          obtain ⟨w1, w2, w3, w4⟩ := lesser_is S (l : Int) (sN S) q1
          refine (rc_same W (by omega) (sN S) (lesser_le S _ _) (Nat.le_refl _) (fun k a b => ?_)).symm
          have := w4 k a b
          omega
    have arn : ¬ aro S l = 0 → aro S l ≠ sN S + 1 := fun _ => by omega
    refine ⟨by omega, ok2, fun c => ?_, fun c => ?_, fun c => ?_, fun c => ?_, fun c => ⟨?_, ?_⟩, fun c => ?_, fun c => ?_, fun k a b c d => ?_, fun c => ?_⟩
    · rw [p']
      by_cases c6 : l = 66
      · rw [if_pos c6]
      · rw [if_neg c6]
        unfold aro
        by_cases c1 : l = 1
        · rw [if_pos (by omega)]
        · rw [if_neg (by omega), if_neg (by omega), if_pos (by omega)]
    · have q := n0 (by omega)
      have kq := key (by omega)
      have ea := inn c.1 c.2
      have q1 := q.1
      rw [ea] at q1
      obtain ⟨w1, w2, w3, w4⟩ := lesser_is S (l : Int) (sN S) q1
      rw [← ea] at w1 w2 w3 w4
      have pe : pa (sadd S l u s) i = aro S l := by rw [p', if_neg (by omega)]
      have wl := (W (aro S l) (by omega) hle).1
      have la : lies S (aro S l) = true := lies_mk (by omega)
      rw [pe, uso _ hle, lvo _ hle, ei, opo _ (Nat.le_refl _), ono _ _ (opn_le _), rco _ hle, r', if_neg (by omega), lbo, if_pos ⟨rfl, q.1, c.2⟩]
      refine ⟨by omega, kq.2.2 (by omega), by omega, by omega, ?_, kq.1, rfl, fun k a b hk => ?_⟩
      · have om := opn_max (S := S) (sN S) (aro S l) (by omega) hle la
        refine chain_p W F (by omega) la w1 (fun k a b lk => ?_) (opn S (sN S)) om (opn_le _) (opn_lies _ (by omega))
        have z1 := w4 k a b
        have z2 := lies_of lk
        omega
      · rw [lio k (by omega)] at hk
        have z1 := w4 k a (by omega)
        rw [lvo k (by omega)]
        omega
    · have q := n0 (by omega)
      have kq := key (by omega)
      have pe : pa (sadd S l u s) i = aro S l := by rw [p', if_neg (by omega)]
      rw [pe, uso _ hle, rco _ hle, r', if_neg (by omega)]
      exact ⟨by omega, (kq.2.1 c).1, (kq.2.1 c).2, kq.1⟩
    · rw [r', if_pos c]
    · have := n0 c; omega
    · rw [r', if_neg c, ei, rco _ (Nat.le_refl _)]
    · have nn : ¬ (l = 1 ∨ l = 77) := by omega
      have q := n0 nn
      have wN := wr (sN S) (by omega) (Nat.le_refl _)
      rw [r', if_neg nn, lvo _ (by omega)]
      by_cases c66 : l = 66
      · have ea : aro S l = topRec S := by unfold aro; rw [if_neg (by omega), if_pos (by omega)]
        have q1 := q.1
        rw [ea] at q1
        unfold topRec at q1
        rw [if_neg q.2] at q1
        by_cases c1 : lv S (rc S (sN S)) = 1
        · exact c1
        · rw [if_neg c1] at q1; exact absurd rfl q1
      · have kq := key nn
        have ea := inn (by omega) (by omega)
        have q1 := q.1
        rw [ea] at q1
        obtain ⟨w1, w2, w3, w4⟩ := lesser_is S (l : Int) (sN S) q1
        rw [← ea] at w1 w2 w3
        rw [← kq.1]
        have ww := W (aro S l) (by omega) hle
        by_cases c1 : lv S (aro S l) = 1
        · rw [ww.2.2.2.2.2.1 (Or.inl c1)]; exact c1
        · have ww1 := ww.1
          have hh : 2 ≤ lv S (aro S l) ∧ lv S (aro S l) ≤ 49 := by clear ww; omega
          exact ww.2.2.2.2.2.2.2.1 (Or.inl hh)
    · have nn : ¬ (l = 1 ∨ l = 77) := by omega
      have q := n0 nn
      have kq := key nn
      have wN := wr (sN S) (by omega) (Nat.le_refl _)
      rw [r', if_neg nn, uso _ (by omega)]
      have ea : aro S l = topRec S := by unfold aro; rw [if_neg (by omega), if_pos (by omega)]
      have q1 := q.1
      have z := kq.2.2 (by omega)
      rw [ea] at q1 z
      unfold topRec at q1 z
      rw [if_neg q.2] at q1 z
      by_cases c1 : lv S (rc S (sN S)) = 1
      · rw [if_pos c1] at z; exact z
      · rw [if_neg c1] at q1; exact absurd rfl q1
    · -- behind one of level 66
      rw [lvo k (by omega)] at c
      rw [rco k (by omega), r'] at d
      by_cases c17 : l = 1 ∨ l = 77
      · rw [if_pos c17] at d
        have := wr k a (by omega)
        omega
      · rw [if_neg c17] at d
        have q := n0 c17
        have kq := key c17
        by_cases c66 : l = 66
        · exact c66
        · exfalso
          -- k is not behind what is around
          have ka : k < aro S l := by
            by_cases c88 : l = 88
            · have ea : aro S l = lastNN S (sN S) := by unfold aro; rw [if_neg (by omega), if_neg (by omega), if_neg (by omega), if_pos (by omega)]
              have q1 := q.1
              have us3 := (kq.2.1 c88).1
              rw [ea] at q1
              obtain ⟨w1, w2⟩ := lastNN_is S (sN S) q1
              by_cases z : k < aro S l
              · exact z
              · by_cases z2 : k = aro S l
                · have uk := of_decide_eq_true (W k a (by omega)).2.1
                  rw [← z2] at us3
                  omega
                · have := w2 k (by omega) (by omega)
                  omega
            · have ea := inn (by omega) (by omega)
              have q1 := q.1
              rw [ea] at q1
              obtain ⟨w1, w2, w3, w4⟩ := lesser_is S (l : Int) (sN S) q1
              rw [← ea] at w1 w2 w3 w4
              by_cases z : k < aro S l
              · exact z
              · by_cases z2 : k = aro S l
                · rw [z2] at c; exact absurd c w2
                · exact absurd c (w4 k (by omega) (by omega)).1
          have := (W (aro S l) (by omega) hle).2.2.2.2.2.2.2.2.2.1 k a ka c (by rw [kq.1]; exact d)
          by_cases c88 : l = 88
          · have us3 := (kq.2.1 c88).1
            have uk := of_decide_eq_true (W (aro S l) (by omega) hle).2.1
            omega
          · have ea := inn (by omega) (by omega)
            have q1 := q.1
            rw [ea] at q1
            obtain ⟨w1, w2, w3, w4⟩ := lesser_is S (l : Int) (sN S) q1
            rw [← ea] at w2
            exact w2 this
    · exfalso
      apply c
      rw [lbo, if_neg (by omega)]
      exact Z 21 i (by omega) (by decide) (by omega)
  · -- the others
    have hi : i ≤ sN S := by omega
    obtain ⟨a1, a2, a3, a4, a5, a6, a7, a8, a9, a10, a11⟩ := W i h1 hi
    have wi := wr i h1 hi
    have pi : pa S i < i := F.2.1 i (by omega)
    rw [lvo i hi, uso i hi, dgo' i hi, pao i hi, rco i hi]
    refine ⟨a1, a2, a3, fun c => ?_, fun c => ?_, a6, fun c => ?_, fun c => ?_, fun c => ?_, fun k a b c d => ?_, fun c => ?_⟩
    · obtain ⟨d1, d2, d3, d4, d5, d6, d7, d8⟩ := a4 c
      rw [uso _ (by omega), lvo _ (by omega), opo _ (by omega), ono _ _ (by have := opn_le (S := S) (i - 1); omega), rco _ (by omega), lbo]
      refine ⟨d1, d2, d3, d4, d5, d6, ?_, fun k a b hk => ?_⟩
      · split
        · rename_i z
          rcases k3 with q | q | ⟨q, q2⟩
          · exfalso
            apply z.2.1
            unfold aro
            rw [if_pos (by omega)]
          · omega
          · rcases q2 with q2 | q2
            · omega
            · rw [← z.1] at q2
              omega
        · exact d7
      · rw [lio k (by omega)] at hk
        rw [lvo k (by omega)]
        exact d8 k a b hk
    · obtain ⟨d1, d2, d3, d4⟩ := a5 c
      rw [uso _ (by omega), rco _ (by omega)]
      exact ⟨d1, d2, d3, d4⟩
    · rw [rco _ (by omega)]; exact a7 c
    · rw [lvo _ (by omega)]; exact a8 c
    · rw [uso _ (by omega)]; exact a9 c
    · rw [lvo k (by omega)] at c
      rw [rco k (by omega)] at d
      exact a10 k a b c d
    · rw [lbo] at c
      by_cases z : i = aro S l ∧ ¬ aro S l = 0 ∧ l ≤ 49
      · have l2 : ¬ l = 1 := fun q => z.2.1 (by unfold aro; rw [if_pos (by omega)])
        refine ⟨sN S + 1, by omega, by rw [N']; exact Nat.le_refl _, ?_, ?_⟩
        · unfold cpa
          rw [sadd_lv, if_pos rfl, if_pos (by omega), sadd_pa, if_pos rfl, if_neg (by omega), ← z.1]
        · refine lies_mk ?_
          rw [sadd_lv, if_pos rfl]; omega
      · rw [if_neg z] at c
        obtain ⟨k, x1, x2, x3, x4⟩ := a11 c
        exact ⟨k, x1, by rw [N']; omega, by rw [sadd_cpa_old x2]; exact x3, by rw [lio k x2]; exact x4⟩
end Ws2
