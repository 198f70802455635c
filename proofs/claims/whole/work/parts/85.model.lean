/-! the reference: layAll -/
section ModC
variable {g : jg} {h h' : jh} {S : sg} {m : Nat} {G : Nat → Nat} {L : lm} {Q : jq}
theorem max_c (a b c : Nat) : max (max 1 a) (max 1 b) = max 1 (max a b) := by omega
/-- units: the class's and the reference's -/
theorem s_units (R : RS h S m) (W : WA S) (hQ : ∀ h' G, RS h' S m → FMl m h h' → (∀ i, 1 ≤ i → i ≤ sN S → gU S i = max 1 (G i)) → HM h' S m G (fun _ _ => 0) → jG g mX10_layAll 128 [(0, .inr (.inr (some m))), (1, .inr (.inl 0)), (3, .inl 0), (4, .inl 1)] [] h' 0 0 Q) : jM g mX10_layAll [.inr (.inr (some m))] h 0 0 Q := by
  have hN := W.n
  have F := W.1
  have A := W.2.1
  have B := W.2.2.1
  have WBh := W.wb
  -- from the last on
  have loop2 : ∀ i (h1 : jh) (G U : Nat → Nat), i ≤ sN S → RS h1 S m → FMl m h h1 → (∀ j, 1 ≤ j → j ≤ sN S → jI h1 (m + 26) j = nI (G j) ∧ jL h1 (m + 22) j = nL (byi S j) ∧ G j ≤ 400) → (∀ j, 1 ≤ j → j ≤ sN S → (i < j ∨ sy S j = 0) → U j = max 1 (G j)) → (∀ j, 1 ≤ j → j ≤ i → ¬ sy S j = 0 → G j = byi S j) → guF S i U = gU S → jG g mX10_layAll 57 [(0, .inr (.inr (some m))), (1, .inl (nI i))] [] h1 0 0 Q := by
    intro i
    induction i with
    | zero =>
      intro h1 G U _ R1 f1 k1 k2 k3 eq
      refine vX10_layAll_57 ⟨fun _ => hQ h1 G R1 f1 (fun j a b => ?_) ⟨fun j a b => (k1 j a b).1, fun j a b c => (by cases c), fun j a b _ => (k1 j a b).2.1, fun j a b c => (by cases c)⟩, fun c => absurd (by decide) c⟩
      have : gU S = U := eq.symm
      rw [this]
      exact k2 j a b (Or.inl (by omega))
    | succ i ih =>
      intro h1 G U hi R1 f1 k1 k2 k3 eq
      have eq' : guF S i (gus S (i + 1) U) = gU S := eq
      have pi := WBh.p (i + 1) (by omega)
      obtain ⟨d1, d2, d3, d4⟩ := R1.apa (i := i + 1) (by omega) (by omega)
      obtain ⟨e1, e2, e3⟩ := R1.k26
      have by1 : ¬ sy S (i + 1) = 0 → 1 ≤ byi S (i + 1) ∧ ¬ us S (i + 1) = 0 := fun q => by
        have hu := B.2.2.2.1 (i + 1) q
        have := gU_U B
        unfold byi byts
        rw [if_neg (by omega), if_neg (by omega), if_neg (by omega), if_neg (by omega)]
        refine ⟨?_, by omega⟩
        split
        · split
          · omega
          · split <;> omega
        · split
          · omega
          · rw [if_pos (by omega)]; omega
      -- its own unit
      have own1 : (if sy S (i + 1) = 0 then U (i + 1) else byi S (i + 1)) = max 1 (G (i + 1)) := by
        by_cases q : sy S (i + 1) = 0
        · rw [if_pos q]; exact k2 (i + 1) (by omega) hi (Or.inr q)
        · rw [if_neg q, k3 (i + 1) (by omega) (Nat.le_refl _) q]
          have := (by1 q).1
          omega
      -- nothing goes up
      have stay : cpa S (i + 1) = 0 ∨ G (i + 1) ≤ G (cpa S (i + 1)) → jG g mX10_layAll 57 [(0, .inr (.inr (some m))), (1, .inl (nI i))] [] h1 0 0 Q := fun q => by
        refine ih h1 G (gus S (i + 1) U) (by omega) R1 f1 k1 (fun j a b c => ?_) (fun j a b c => k3 j a (by omega) c) eq'
        unfold gus
        by_cases z : j = cpa S (i + 1) ∧ ¬ cpa S (i + 1) = 0
        · rw [if_pos z, own1]
          have syp : sy S j = 0 := by
            by_cases y : sy S j = 0
            · exact y
            · exfalso
              have hu := B.2.2.2.1 j y
              have l50 : lv S (i + 1) < 50 := by
                by_cases w : lv S (i + 1) < 50
                · exact w
                · exact absurd (cpa_n w) z.2
              have := (WBh.ch (by omega) hi (lies_mk (Or.inl l50)) z.2).2.1
              rw [← z.1] at this
              omega
          rw [k2 j a b (Or.inr syp)]
          rcases q with q | q
          · exact absurd q z.2
          · rw [← z.1] at q
            omega
        · rw [if_neg z]
          by_cases y : j = i + 1 ∧ ¬ sy S (i + 1) = 0
          · rw [if_pos y, y.1, k3 (i + 1) (by omega) (Nat.le_refl _) y.2]
            have := (by1 y.2).1
            omega
          · rw [if_neg y]
            refine k2 j a b ?_
            by_cases w : j = i + 1
            · right
              rw [w]
              by_cases v : sy S (i + 1) = 0
              · exact v
              · exact absurd ⟨w, v⟩ y
            · rcases c with c | c
              · left; omega
              · exact Or.inr c
      refine vX10_layAll_57 ?_
      unfold VX10_layAll_57
      rw [le0 (by omega), pk_m1]
      refine ⟨fun q => by omega, fun _ => ⟨R1.t, s_lies R1 F (by omega) (by omega) ?_⟩⟩
      rw [jki_i, jb_0]
      refine ⟨fun q => stay (Or.inl ?_), fun q => ⟨R1.t, d1, d2, d3, ?_⟩⟩
      · have nl : ¬ lv S (i + 1) < 50 := fun z => by rw [lies_mk (Or.inl z)] at q; cases q
        exact cpa_n nl
      · have li : lies S (i + 1) = true := by simpa using q
        have pc := pa_cpa A (by omega) hi li
        rw [d4, pc, le0 (by omega)]
        refine ⟨fun z => stay (Or.inl z), fun z => ?_⟩
        have g1 := k1 (i + 1) (by omega) hi
        have g2 := k1 (cpa S (i + 1)) (by omega) (by omega)
        rw [e1, jd_s, e3, nI_clamp (by omega), nI_clamp (by omega), g1.1, g2.1, nI_leI (by omega) (by omega)]
        refine ⟨jsn, e2, vp_in_nI (by omega) (by decide), vp_in_nI (by omega) (by decide), fun y => stay (Or.inr y), fun y => ?_⟩
        intro h2 x2
        have f2 : FMl m h1 h2 := FMl.sI x2 (by decide) (by decide)
        have syp : sy S (cpa S (i + 1)) = 0 := by
          by_cases y2 : sy S (cpa S (i + 1)) = 0
          · exact y2
          · exfalso
            have hu := B.2.2.2.1 _ y2
            have := (WBh.ch (by omega) hi li z).2.1
            omega
        refine ih h2 (fun j => if j = cpa S (i + 1) then G (i + 1) else G j) (gus S (i + 1) U) (by omega) (R1.fl f2) (f1.trans f2) (fun j a b => ?_) (fun j a b c => ?_) (fun j a b c => ?_) eq'
        · rw [x2, jI_sI, jL_sI]
          show _ = nI (if _ then _ else _) ∧ _ ∧ (if _ then _ else _) ≤ _
          by_cases w : j = cpa S (i + 1)
          · rw [if_pos ⟨rfl, w⟩, if_pos w]; exact ⟨rfl, (k1 j a b).2.1, g1.2.2⟩
          · rw [if_neg (fun v => w v.2), if_neg w]; exact k1 j a b
        · show gus S (i + 1) U j = max 1 (if _ then _ else _)
          unfold gus
          by_cases w : j = cpa S (i + 1)
          · rw [if_pos ⟨w, z⟩, if_pos w, own1, w, k2 _ (by omega) (by omega) (Or.inr syp)]
            omega
          · rw [if_neg (fun v => w v.1), if_neg w]
            by_cases y3 : j = i + 1 ∧ ¬ sy S (i + 1) = 0
            · rw [if_pos y3, y3.1, k3 (i + 1) (by omega) (Nat.le_refl _) y3.2]
              have := (by1 y3.2).1
              omega
            · rw [if_neg y3]
              refine k2 j a b ?_
              by_cases w2 : j = i + 1
              · right
                rw [w2]
                by_cases v : sy S (i + 1) = 0
                · exact v
                · exact absurd ⟨w2, v⟩ y3
              · rcases c with c | c
                · left; omega
                · exact Or.inr c
        · show (if _ then _ else _) = _
          by_cases w : j = cpa S (i + 1)
          · rw [w] at c; exact absurd syp c
          · rw [if_neg w]; exact k3 j a (by omega) c
  -- the first values
  have loop1 : ∀ n j (h1 : jh), j + n = sN S + 1 → 1 ≤ j → RS h1 S m → FMl m h h1 → (∀ i, 1 ≤ i → i < j → jI h1 (m + 26) i = nI (if sy S i = 0 then 0 else byi S i) ∧ jL h1 (m + 22) i = nL (byi S i)) → jG g mX10_layAll 2 [(0, .inr (.inr (some m))), (1, .inl (nI j))] [] h1 0 0 Q := by
    intro n
    induction n with
    | zero =>
      intro j h1 e _ R1 f1 k1
      refine vX10_layAll_2 ⟨R1.t, ?_⟩
      rw [R1.many]
      refine ⟨fun _ => loop2 (sN S) h1 (fun i => if sy S i = 0 then 0 else byi S i) (fun _ => 1) (Nat.le_refl _) R1 f1 (fun i a b => ⟨(k1 i a (by omega)).1, (k1 i a (by omega)).2, ?_⟩) (fun i a b c => ?_) (fun i a b c => ?_) rfl, fun c => absurd (nI_lt (by omega) (by omega)) c⟩
      · have := WBh.by i
        show (if _ then _ else _) ≤ 400
        split <;> omega
      · show 1 = max 1 (if _ then _ else _)
        rw [if_pos (by omega)]; rfl
      · show (if _ then _ else _) = _
        rw [if_neg c]
    | succ n ih =>
      intro j h1 e hj R1 f1 k1
      have hjN : j ≤ sN S := by omega
      obtain ⟨a1, a2, a3, a4⟩ := R1.asy (i := j) hj (by omega)
      have wy : sy S j ≤ 1 := F.2.2.2.2.2.2.2.2.2.2.2.2.2.2.2.1 j
      have zy : nI (sy S j) = 0 ↔ sy S j = 0 := nI_eq (b := 0) (by omega) (by decide)
      have by4 := WBh.by j
      obtain ⟨e1, e2, e3⟩ := R1.k26
      have h33 : ∀ v : Int32, v = nI (if sy S j = 0 then 0 else byi S j) → VX10_layAll_33 g m (nI j) (some (m + 26)) (nI j) v h1 0 0 Q := by
        intro v hv
        refine ⟨jsn, e2, ?_⟩
        rw [jd_s, e3, nI_clamp (by omega)]
        refine ⟨vp_in_nI (by omega) (by decide), ?_⟩
        intro h2 x2
        have f2 : FMl m h1 h2 := FMl.sI x2 (by decide) (by decide)
        have R2 := R1.fl f2
        refine ⟨R2.t, s_bytesOf R2 F hj (by omega) ?_⟩
        obtain ⟨w1, w2, w3⟩ := R2.k22
        rw [jki_i, w1, jd_s, w3, nI_toInt64 (by omega), nI_1]
        refine ⟨jsn, w2, vp_in_nI (by omega) (by decide), ?_⟩
        intro h3 x3
        have f3 : FMl m h2 h3 := FMl.sL x3 (by decide) (by decide)
        refine ih (j + 1) h3 (by omega) (by omega) (R2.fl f3) ((f1.trans f2).trans f3) (fun i a b => ?_)
        have v26 : jI h3 (m + 26) i = if i = j then v else jI h1 (m + 26) i := by
          rw [x3, jI_sL, x2, jI_sI]
          by_cases w : i = j
          · rw [if_pos ⟨rfl, w⟩, if_pos w]
          · rw [if_neg (fun z => w z.2), if_neg w]
        have v22 : jL h3 (m + 22) i = if i = j then nL (byi S j) else jL h1 (m + 22) i := by
          rw [x3, jL_sL, x2, jL_sI]
          by_cases w : i = j
          · rw [if_pos ⟨rfl, w⟩, if_pos w]
          · rw [if_neg (fun z => w z.2), if_neg w]
        rw [v26, v22]
        by_cases w : i = j
        · rw [if_pos w, if_pos w, w]; exact ⟨hv, rfl⟩
        · rw [if_neg w, if_neg w]; exact k1 i a (by omega)
      refine vX10_layAll_2 ⟨R1.t, ?_⟩
      rw [R1.many, a4, zy, e1]
      refine ⟨fun c => absurd c (nI_nlt (by omega) (by omega)), fun _ => ⟨a1, a2, a3, fun c => h33 0 (by rw [if_pos c]; rfl), fun c => s_bytesOf R1 F hj (by omega) ?_⟩⟩
      rw [jki_i]
      exact h33 _ (by rw [if_neg c])
  exact eX10_layAll (loop1 (sN S) 1 h (by omega) (by omega) R FMl.rf (fun i a b => by omega))
end ModC
