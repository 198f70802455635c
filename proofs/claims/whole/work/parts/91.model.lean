/-! the reference writes every entry -/
/-- only the bytes, and what it remembers of the tables around, have changed -/
def FF (m : Nat) (h h' : jh) : Prop := jz h' = jz h ∧ jt h' = jt h ∧ jn h' = jn h ∧ (∀ k c, ¬ (k = 546 ∧ c = m) → ji h' k c = ji h k c) ∧ jl h' = jl h ∧ jr h' = jr h ∧ jL h' = jL h ∧ jR h' = jR h ∧ ∀ c, c ≠ m + 20 → c ≠ m + 27 → jI h' c = jI h c
section ModJ
variable {g : jg} {h h' h1 : jh} {S : sg} {m : Nat} {Q : jq}
theorem FF.rf : FF m h h := ⟨rfl, rfl, rfl, fun _ _ _ => rfl, rfl, rfl, rfl, rfl, fun _ _ _ => rfl⟩
theorem FF.trans {h2 : jh} (p : FF m h h1) (q : FF m h1 h2) : FF m h h2 := by
  obtain ⟨a1, a2, a3, a4, a5, a6, a7, a8, a9⟩ := p
  obtain ⟨b1, b2, b3, b4, b5, b6, b7, b8, b9⟩ := q
  exact ⟨b1.trans a1, b2.trans a2, b3.trans a3, fun k c w => (b4 k c w).trans (a4 k c w), b5.trans a5, b6.trans a6, b7.trans a7, b8.trans a8, fun c w1 w2 => (b9 c w1 w2).trans (a9 c w1 w2)⟩
theorem FA.ff (F : FA (m + 20) h h') : FF m h h' := by
  obtain ⟨a1, a2, a3, a4, a5, a6, a7, a8, a9⟩ := F
  exact ⟨a1, a2, a3, fun k c _ => by rw [a4], a5, a6, a7, a8, fun c w _ => a9 c w⟩
theorem FF.ml (F : FF m h h') : FMl m h h' := by
  obtain ⟨a1, a2, a3, a4, a5, a6, a7, a8, a9⟩ := F
  exact ⟨⟨a1, a2, a3, fun k c w => ⟨a4 k c (by omega), by rw [a5]⟩, a6, fun c w => ⟨a9 c (by omega) (by omega), by rw [a7]⟩, a8⟩, fun k w _ _ => a4 k m (by omega), fun j w => a9 _ (by omega) (by omega)⟩
theorem RS.ff (R : RS h S m) (F : FF m h h') : RS h' S m := R.fl F.ml
theorem RS.k27 (R : RS h S m) : jr h 545 m = some (m + 27) ∧ jt h (m + 27) = 20 ∧ jn h (m + 27) = 4 := R.p 27 (by decide) (by decide)
theorem s_findAround (R : RS h S m) (W : WA S) {i : Nat} (i2 : i ≤ sN S) (hl : i = 0 ∨ lies S i = true) (hQ : ∀ h', FF m h h' → jI h' (m + 20) = jI h (m + 20) → ji h' 546 m = nI (tabs S i) → (∀ k, k < tabs S i → jI h' (m + 27) k = nI (tki S i k)) → Q (.inl none) h') : jM g mX10_findAround [.inr (.inr (some m)), .inl (nI i)] h 0 0 Q := by
  have hN := W.n
  have hp := W.wb.p
  have h3 := W.wb.tab i
  have loop : ∀ c (h1 : jh), c ≤ sN S → (c = 0 ∨ lies S c = true) → tabs S c ≤ tabs S i → (∀ b, b < tabs S c → tout S (tabs S i - tabs S c + b) i = tout S b c) → FF m h h1 → jI h1 (m + 20) = jI h (m + 20) → ji h1 546 m = nI (tabs S i) → (∀ k, tabs S c ≤ k → k < tabs S i → jI h1 (m + 27) k = nI (tki S i k)) → jG g mX10_findAround 17 [(0, .inr (.inr (some m))), (2, .inl (nI (tabs S c))), (3, .inl (nI c))] [] h1 0 0 Q := by
    intro c
    induction c using Nat.strongRecOn with
    | _ c ih =>
      intro h1 hc hlc hle ht F1 e20 e46 hr
      have R1 := R.ff F1
      refine vX10_findAround_17 ?_
      unfold VX10_findAround_17
      rw [le0 (by omega)]
      refine ⟨fun q => hQ h1 F1 e20 e46 (fun k hk => hr k (by rw [q]; exact Nat.zero_le _) hk), fun q => ?_⟩
      obtain ⟨a1, a2, a3, a4⟩ := R1.atb (i := c) (by omega) (by omega)
      obtain ⟨b1, b2, b3, b4⟩ := R1.apa (i := c) (by omega) (by omega)
      obtain ⟨x1, x2, x3⟩ := W.nx q hc hlc
      have wt := W.1.2.2.2.2.2.1 c
      have ts := tabs_step hp (j := c) (by omega)
      have zt : nI (tb S c) = 0 ↔ tb S c = 0 := nI_eq (b := 0) (by omega) (by decide)
      refine ⟨R1.t, a1, a2, a3, ?_⟩
      rw [a4, zt]
      refine ⟨fun q3 => ?_, fun q3 => ⟨b1, b2, b3, ?_⟩⟩
      · rw [if_pos q3] at ts
        have ec : nI (tabs S c) + (-1) = nI (tabs S (cpa S c)) := by rw [subm1, ts, Nat.add_comm, nI_pred]
        obtain ⟨k1, k2, k3⟩ := R1.k27
        rw [ec, k1, jd_s, k3, nI_clamp (by omega)]
        refine ⟨jsn, k2, vp_in_nI (by omega) (by decide), fun h2 e => ?_⟩
        have F2 : FF m h1 h2 := by
          rw [e]
          refine ⟨rfl, rfl, rfl, fun _ _ _ => rfl, rfl, rfl, rfl, rfl, fun c w1 w2 => ?_⟩
          funext x
          rw [jI_sI, if_neg (fun z => w2 z.1)]
        have R2 := R1.ff F2
        obtain ⟨b1, b2, b3, b4⟩ := R2.apa (i := c) (by omega) (by omega)
        refine ⟨b1, b2, b3, ?_⟩
        rw [b4, x1]
        refine ih _ x2 h2 (by omega) x3 (by omega) (fun b hb => ?_) (F1.trans F2) ?_ ?_ (fun k w1 w2 => ?_)
        · have := ht (b + 1) (by omega)
          rw [tout_step hp (i := c) (by omega), if_neg q3, if_neg (by omega), Nat.add_sub_cancel] at this
          rw [← this]
          congr 1; omega
        · rw [e, ← e20]
          funext x
          rw [jI_sI, if_neg (by omega)]
        · rw [e]; exact e46
        · rw [e, jI_sI]
          by_cases z : k = tabs S (cpa S c)
          · rw [if_pos ⟨rfl, z⟩]
            have := ht 0 (by omega)
            rw [tout_step hp (i := c) (by omega), if_neg q3, if_pos rfl] at this
            unfold tki
            rw [← this]
            congr 2; omega
          · rw [if_neg (fun w => z w.2)]
            exact hr k (by omega) w2
      · rw [if_neg (fun z => z q3)] at ts
        have et : tabs S c = tabs S (cpa S c) := by omega
        rw [b4, x1, et]
        refine ih _ x2 h1 (by omega) x3 (by omega) (fun b hb => ?_) F1 e20 e46 (fun k w1 w2 => hr k (by omega) w2)
        have := ht b (by omega)
        rw [tout_step hp (i := c) (by omega), if_pos q3] at this
        rw [← this, et]
  refine eX10_findAround ⟨R.t, s_tabs R W i2 hl (Or.inl rfl) ?_⟩
  rw [jki_i, show tabs S 0 = 0 from rfl, Nat.sub_zero]
  refine ⟨R.t, fun h2 e => ?_⟩
  have F2 : FF m h h2 := by
    rw [e]
    refine ⟨rfl, rfl, rfl, fun k c w => ?_, rfl, rfl, rfl, rfl, fun _ _ _ => rfl⟩
    rw [ji_si, if_neg w]
  have e46 : ji h2 546 m = nI (tabs S i) := by rw [e, ji_si, if_pos ⟨rfl, rfl⟩]
  rw [e46]
  exact loop i h2 i2 hl (Nat.le_refl _) (fun b _ => by congr 1; omega) F2 (by rw [e]; rfl) e46 (fun k w1 w2 => by omega)
end ModJ
