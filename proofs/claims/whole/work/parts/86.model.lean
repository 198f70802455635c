/-! the reference: layAll, the contract -/
section ModD
variable {g : jg} {h h' : jh} {S : sg} {m : Nat} {G : Nat → Nat} {Q : jq}
/-- bounds of what is open -/
theorem INV.sm {U : Nat → Nat} {L : lm} {i x : Nat} (W : WB S U) (I : INV S U i x L) (hi : i ≤ 120) {j : Nat} (hj : onc S x j = true) : L 1 j + 16 < 2 ^ 63 ∧ L 1 j - L 0 j + 8 < 2 ^ 63 := by
  obtain ⟨c1, c2, c3, c4, c5, c6, c7, c8, c9, c10⟩ := I
  have le := onc_le W.p _ _ hj
  have h7 := c7 j hj
  have h6 := c6 j le.1 (by omega) (c10 j hj)
  have hm : 512 * (i + 1 - j) * 1000 ^ (3 - tabs S j) ≤ 512 * (i + 1 - j) * 1000000000 := Nat.mul_le_mul_left _ (p1000 _).1
  omega
/-- closing one, as layAll does it -/
theorem s_close1 (W : WA S) (hG : ∀ i, 1 ≤ i → i ≤ sN S → gU S i = max 1 (G i)) {i x : Nat} {L : lm} {h1 : jh} (hi : i ≤ sN S) (x0 : ¬ x = 0) (R1 : RS h1 S m) (H : HM h1 S m G L) (I : INV S (gU S) i x L) (J : IN4 S i x L) {K : jh → Prop} {E : Nat → jh → Prop} (hK : ∀ h2, RS h2 S m → HM h2 S m G (fin S (gU S) x L) → FMl m h1 h2 → jL h2 (m + 24) x = nL (L 0 x + exf S (gU S) L x) → K h2) : jM g mX10_close [.inr (.inr (some m)), .inl (nI x)] h1 0 0 (jkv K E) := by
  have hN := W.n
  have hs := onc_self W.wb.p (by omega : 0 < x)
  obtain ⟨c1, c2, c3, c4, c5, c6, c7, c8, c9, c10⟩ := id I
  have lx := c10 x hs
  have cx := c1 x (by omega) c9 lx
  refine s_close R1 W H hG (by omega) (by omega) lx (I.fok W.wb (by omega) hi hN) (INV.sm W.wb I (by omega) hs).2 cx.2.2.2 (fun j j1 hj e => ?_) (fun h2 H2 f2 a2 => ?_)
  · have := J.1 _ (onc_par W.wb.p hs (by omega : ¬ cpa S x = 0))
    rw [← e, hj] at this; cases this
  · rw [jkv_i]; exact hK h2 (R1.fl f2) H2 f2 a2
theorem s_layAll (R : RS h S m) (W : WA S) (hQ : ∀ h' G, RS h' S m → FMl m h h' → (∀ i, 1 ≤ i → i ≤ sN S → gU S i = max 1 (G i)) → HM h' S m G (mfin S (gU S) false) → jL h' (m + 21) 0 = nL (mfin S (gU S) false 4 0) → Q (.inl none) h') : jM g mX10_layAll [.inr (.inr (some m))] h 0 0 Q := by
  have hN := W.n
  have F := W.1
  have A := W.2.1
  have WBh := W.wb
  refine s_units R W (fun h0 G R0 f0 hG H0 => ?_)
  -- the end
  have loop3 : ∀ c (h1 : jh) (L : lm), c ≤ sN S → RS h1 S m → FMl m h h1 → HM h1 S m G L → INV S (gU S) (sN S) c L → IN4 S (sN S) c L → fup S (gU S) c 0 L = mfin S (gU S) false → jG g mX10_layAll 222 [(0, .inr (.inr (some m))), (1, .inr (.inl (nL (L 4 0)))), (3, .inl (nI c))] [] h1 0 0 Q := by
    intro c
    induction c using Nat.strongRecOn with
    | _ c ih =>
      intro h1 L hc R1 f1 H1 I J eq
      refine vX10_layAll_222 ?_
      unfold VX10_layAll_222
      rw [le0 (by omega)]
      refine ⟨fun c0 => ⟨R1.t, ?_⟩, fun c0 => ⟨R1.t, ?_⟩⟩
      · obtain ⟨u1, u2, u3⟩ := R1.k21
        rw [u1, jd_s, u3]
        refine ⟨jsn, u2, vp_in_nI (n := 0) (by decide) (by decide), ?_⟩
        intro h2 x2
        rw [fup_0 (Or.inl c0)] at eq
        have x2' : h2 = jsL h1 (m + 21) 0 (nL (L 4 0)) := x2
        have f2 : FMl m h1 h2 := FMl.sL x2' (by decide) (by decide)
        refine hQ h2 G (R1.fl f2) (f1.trans f2) hG ?_ ?_
        · rw [← eq]
          refine ⟨fun i a b => ?_, fun i a b q => ?_, fun i a b q => ?_, fun i a b q => ?_⟩
          · rw [x2', jI_sL]; exact H1.1 i a b
          · rw [x2', jL_sL, if_neg (by omega), jL_sL, if_neg (by omega), jL_sL, if_neg (by omega)]; exact H1.2.1 i a b q
          · rw [x2', jL_sL, if_neg (by omega)]; exact H1.2.2.1 i a b q
          · rw [x2', jL_sL, if_neg (by omega), jL_sL, if_neg (by omega)]; exact H1.2.2.2 i a b q
        · rw [x2', jL_sL, if_pos ⟨rfl, rfl⟩, ← eq]
      · refine s_close1 W hG (Nat.le_refl _) c0 R1 H1 I J (fun h2 R2 H2 f2 a2 => ?_)
        have hs := onc_self WBh.p (by omega : 0 < c)
        have lc := I.2.2.2.2.2.2.2.2.2 c hs
        obtain ⟨o1, o2, o3, o4, o5, o6⟩ := I.fok WBh (by omega) (Nat.le_refl _) hN
        obtain ⟨d1, d2, d3, d4⟩ := R2.apa (i := c) (by omega) (by omega)
        obtain ⟨s1, s2, s3⟩ := R2.k24
        have pc := pa_cpa A (by omega) hc lc
        have p := WBh.p c (by omega)
        have zp : nI (cpa S c) = 0 ↔ cpa S c = 0 := nI_eq (b := 0) (by omega) (by decide)
        have I2 := I.cl WBh (by omega) (Nat.le_refl _)
        have J2 := J.cl (U := gU S) WBh (by omega) hc
        have eq2 : fup S (gU S) (cpa S c) 0 (fin S (gU S) c L) = mfin S (gU S) false := by rw [← fup_step WBh.p (by omega)]; exact eq
        have next := ih (cpa S c) p h2 _ (by omega) R2 (f1.trans f2) H2 I2 J2 eq2
        rw [fin_4] at next
        rw [d4, pc, zp, s1, jd_s, s3, nI_clamp (by omega), a2]
        have le : nL (L 0 c + exf S (gU S) L c) ≤ nL (L 4 0) ↔ L 0 c + exf S (gU S) L c ≤ L 4 0 := pk_lLE o4 o5
        refine ⟨R2.t, d1, d2, d3, fun z => ?_, fun z => ⟨jsn, s2, vp_in_nI (by omega) (by decide), ?_⟩⟩
        · rw [if_neg z] at next; exact next
        · rw [if_pos z] at next
          rw [le]
          refine ⟨fun y => ?_, fun y => ?_⟩
          · rw [show max (L 4 0) (L 0 c + exf S (gU S) L c) = L 4 0 by omega] at next; exact next
          · rw [show max (L 4 0) (L 0 c + exf S (gU S) L c) = L 0 c + exf S (gU S) L c by omega] at next; exact next
  have loop : ∀ n i (h1 : jh), i + n = sN S → RS h1 S m → FMl m h h1 → HM h1 S m G (mst S (gU S) false i) → jG g mX10_layAll 128 [(0, .inr (.inr (some m))), (1, .inr (.inl (nL (mst S (gU S) false i 4 0)))), (3, .inl (nI (opn S i))), (4, .inl (nI (i + 1)))] [] h1 0 0 Q := by
    intro n
    induction n with
    | zero =>
      intro i h1 e R1 f1 H1
      have ei : i = sN S := by omega
      refine vX10_layAll_128 ⟨R1.t, ?_⟩
      rw [R1.many]
      refine ⟨fun _ => ?_, fun c => absurd (nI_lt (by omega) (by omega)) c⟩
      rw [ei] at H1 ⊢
      exact loop3 _ h1 _ (opn_le _) R1 f1 H1 (INV.ms WBh _ (Nat.le_refl _)) (IN4.ms WBh _ (Nat.le_refl _)) rfl
    | succ n ih =>
      intro i h1 e R1 f1 H1
      have hi : i + 1 ≤ sN S := by omega
      refine vX10_layAll_128 ⟨R1.t, ?_⟩
      rw [R1.many, nI_1]
      refine ⟨fun c => absurd c (nI_nlt (by omega) (by omega)), fun _ => s_lies R1 F (by omega) (by omega) ?_⟩
      rw [jki_i, jb_0]
      have e1 : opn S (i + 1) = if lies S (i + 1) = true then i + 1 else opn S i := rfl
      refine ⟨fun c => ?_, fun c => ?_⟩
      · have hl : lies S (i + 1) = true := by simpa using c
        have e2 : mst S (gU S) false (i + 1) = beg S (gU S) false (i + 1) (fup S (gU S) (opn S i) (cpa S (i + 1)) (mst S (gU S) false i)) := by rw [mst_succ, if_pos hl]
        rw [if_pos hl] at e1
        have V := INV.nx (b := false) WBh hi hl
        have pI := WBh.p (i + 1) (by omega)
        have pcI := pa_cpa A (by omega) hi hl
        have lastc : cpa S (i + 1) = 0 ∨ onc S (opn S i) (cpa S (i + 1)) = true := by
          by_cases hc : cpa S (i + 1) = 0
          · exact Or.inl hc
          · exact Or.inr (WBh.ch (by omega) hi hl hc).2.2
        have V4 := (IN4.ms (b := false) WBh i (by omega)).fp WBh (last := cpa S (i + 1)) (opn S i) _ (opn_le _) lastc
        -- the item begins
        have h206 : ∀ h2 : jh, RS h2 S m → FMl m h h2 → HM h2 S m G (fup S (gU S) (opn S i) (cpa S (i + 1)) (mst S (gU S) false i)) → VX10_layAll_206 g m (nL (fup S (gU S) (opn S i) (cpa S (i + 1)) (mst S (gU S) false i) 4 0)) (nI (i + 1)) h2 0 0 Q := by
          intro h2 R2 f2 H2
          have c8 := V.2.2.2.2.2.2.2.1
          refine ⟨R2.t, s_begin R2 W H2 hG (by omega) hi hl (V4.2 (i + 1) (by omega)).2 (V4.2 (i + 1) (by omega)).1 (fun hc => ?_) (fun ho => ?_) (fun hf => ?_) (by omega) (fun hc => ?_) (fun h3 H3 f3 => ?_)⟩
          · have lc := (WBh.ch (by omega) hi hl hc).1
            have q := V.1 _ (by omega) (by omega) lc
            exact ⟨q.1, by have := q.2.1; omega⟩
          · obtain ⟨o1, o2, -⟩ := WBh.o (by omega) hi ho
            exact (V.1 _ (by omega) (by omega) o2).1
          · obtain ⟨y1, y2, y3, -⟩ := WBh.fn (by omega) hi hf
            exact (V.1 _ (by omega) (by omega) (lies_mk (by omega))).1
          · exact (INV.sm WBh V (by omega) (onc_self WBh.p (by omega))).1
          · rw [jkv_i, nI_1]
            have := ih (i + 1) h3 (by omega) (R2.fl f3) (f2.trans f3) (by rw [e2]; exact H3)
            rw [e1, e2, beg_4] at this
            exact this
        have loop4 : ∀ c (h2 : jh) (L : lm), c ≤ sN S → (cpa S (i + 1) = 0 ∨ onc S c (cpa S (i + 1)) = true) → RS h2 S m → FMl m h h2 → HM h2 S m G L → INV S (gU S) i c L → IN4 S i c L → fup S (gU S) c (cpa S (i + 1)) L = fup S (gU S) (opn S i) (cpa S (i + 1)) (mst S (gU S) false i) → jG g mX10_layAll 149 [(0, .inr (.inr (some m))), (1, .inr (.inl (nL (L 4 0)))), (3, .inl (nI c)), (4, .inl (nI (i + 1)))] [] h2 0 0 Q := by
          intro c
          induction c using Nat.strongRecOn with
          | _ c ihc =>
            intro h2 L hc hlast R2 f2 H2 I J eq
            obtain ⟨d1, d2, d3, d4⟩ := R2.apa (i := i + 1) (by omega) (by omega)
            have stop : (c = 0 ∨ c = cpa S (i + 1)) → VX10_layAll_206 g m (nL (L 4 0)) (nI (i + 1)) h2 0 0 Q := fun q => by
              rw [fup_0 q] at eq
              rw [eq] at H2 ⊢
              exact h206 h2 R2 f2 H2
            refine vX10_layAll_149 ?_
            unfold VX10_layAll_149
            rw [le0 (by omega), d4, pcI, nI_eq (by omega) (by omega)]
            refine ⟨fun c0 => stop (Or.inl c0), fun c0 => ⟨R2.t, d1, d2, d3, fun cl => stop (Or.inr cl), fun cl => ?_⟩⟩
            refine s_close1 W hG (by omega) c0 R2 H2 I J (fun h3 R3 H3 f3 a3 => ?_)
            have hs := onc_self WBh.p (by omega : 0 < c)
            have lc := I.2.2.2.2.2.2.2.2.2 c hs
            obtain ⟨o1, o2, o3, o4, o5, o6⟩ := I.fok WBh (by omega) (by omega) hN
            obtain ⟨b1, b2, b3, b4⟩ := R3.apa (i := c) (by omega) (by omega)
            obtain ⟨s1, s2, s3⟩ := R3.k24
            have pc := pa_cpa A (by omega) hc lc
            have p := WBh.p c (by omega)
            have zp : nI (cpa S c) = 0 ↔ cpa S c = 0 := nI_eq (b := 0) (by omega) (by decide)
            have I2 := I.cl WBh (by omega) (by omega)
            have J2 := J.cl (U := gU S) WBh (by omega) I.2.2.2.2.2.2.2.2.1
            have eq2 : fup S (gU S) (cpa S c) (cpa S (i + 1)) (fin S (gU S) c L) = fup S (gU S) (opn S i) (cpa S (i + 1)) (mst S (gU S) false i) := by rw [← fup_step WBh.p (by omega)]; exact eq
            have hl2 : cpa S (i + 1) = 0 ∨ onc S (cpa S c) (cpa S (i + 1)) = true := by
              rcases hlast with q | q
              · exact Or.inl q
              · rcases onc_or WBh.p q with q2 | q2
                · exact absurd q2.symm cl
                · exact Or.inr q2
            have next := ihc (cpa S c) p h3 _ (by omega) hl2 R3 (f2.trans f3) H3 I2 J2 eq2
            rw [fin_4] at next
            rw [b4, pc, zp, s1, jd_s, s3, nI_clamp (by omega), a3]
            have le : nL (L 0 c + exf S (gU S) L c) ≤ nL (L 4 0) ↔ L 0 c + exf S (gU S) L c ≤ L 4 0 := pk_lLE o4 o5
            refine ⟨R3.t, b1, b2, b3, fun z => ?_, fun z => ⟨jsn, s2, vp_in_nI (by omega) (by decide), ?_⟩⟩
            · rw [if_neg z] at next; exact next
            · rw [if_pos z] at next
              rw [le]
              refine ⟨fun y => ?_, fun y => ?_⟩
              · rw [show max (L 4 0) (L 0 c + exf S (gU S) L c) = L 4 0 by omega] at next; exact next
              · rw [show max (L 4 0) (L 0 c + exf S (gU S) L c) = L 0 c + exf S (gU S) L c by omega] at next; exact next
        have ol := opn_le (S := S) i
        exact loop4 (opn S i) h1 _ (by omega) lastc R1 f1 H1 (INV.ms WBh i (by omega)) (IN4.ms WBh i (by omega)) rfl
      · have e2 : mst S (gU S) false (i + 1) = mst S (gU S) false i := by rw [mst_succ, if_neg (by rw [c]; decide)]
        rw [if_neg (by rw [c]; decide)] at e1
        have := ih (i + 1) h1 (by omega) R1 f1 (by rw [e2]; exact H1)
        rw [e1, e2] at this
        exact this
  exact loop (sN S) 0 h0 (by omega) R0 f0 H0
end ModD
