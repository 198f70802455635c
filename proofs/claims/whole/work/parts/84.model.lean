/-! the reference: close, begin -/
section ModB
variable {g : jg} {h h' : jh} {S : sg} {m : Nat} {G : Nat → Nat} {L : lm} {Q : jq}
theorem HM.exf_cg {L' : lm} {i : Nat} (h0 : L' 0 i = L 0 i) (h1 : L' 1 i = L 1 i) : exf S (gU S) L' i = exf S (gU S) L i := (exf_same h0 h1).1
theorem s_close (R : RS h S m) (W : WA S) (H : HM h S m G L) (hG : ∀ i, 1 ≤ i → i ≤ sN S → gU S i = max 1 (G i)) {x : Nat} (x1 : 1 ≤ x) (x2 : x ≤ sN S) (hl : lies S x = true) (ok : FOK S (gU S) L x) (hlen : L 1 x - L 0 x + 8 < 2 ^ 63) (hpp : ¬ cpa S x = 0 → ot S x = 0 → L 0 (cpa S x) ≤ L 0 x) (h5 : ∀ j, 1 ≤ j → L 5 j = 1 → j ≠ cpa S x) (hQ : ∀ h', HM h' S m G (fin S (gU S) x L) → FMl m h h' → jL h' (m + 24) x = nL (L 0 x + exf S (gU S) L x) → Q (.inl none) h') : jM g mX10_close [.inr (.inr (some m)), .inl (nI x)] h 0 0 Q := by
  have hN := W.n
  have F := W.1
  obtain ⟨o1, o2, o3, o4, o5, o6⟩ := ok
  have px := W.wb.p x (by omega)
  have pc := pa_cpa W.2.1 x1 x2 hl
  obtain ⟨a1, a2, a3, a4⟩ := R.atb x1 (by omega)
  have wt := F.2.2.2.2.2.1 x
  have wm := F.2.2.2.2.2.2.1 x
  have hU := W.wb.u x
  have vin : vp_in (nI x) 121 := vp_in_nI (by omega) (by decide)
  have ncl : (nI x).toNatClampNeg = x := nI_clamp (by omega)
  obtain ⟨g1, g2, g3⟩ := H.2.1 x x1 x2 o1
  -- behind the stride
  have h19 : ∀ Gs : Nat, isU (max 1 Gs) → (¬ tb S x = 0 → max 1 Gs = gU S x) → (tb S x = 0 → Gs = 1) → VX10_close_19 g m (nI x) (nI Gs) h 0 0 Q := by
    intro Gs hGs e1 e0
    obtain ⟨k1, k2, k3⟩ := R.k22
    refine ⟨R.t, ?_⟩
    rw [k1, jd_s, k3, ncl, g2]
    refine ⟨jsn, k2, vin, s_up (by omega) hGs ?_⟩
    rw [jkl_i]
    obtain ⟨l1, l2, l3⟩ := R.k23
    rw [l1, jd_s, l3]
    refine ⟨jsn, l2, vin, ?_⟩
    intro h1 x3
    have f1 : FMl m h h1 := FMl.sL x3 (by decide) (by decide)
    have R1 := R.fl f1
    obtain ⟨p1, p2, p3⟩ := R1.k21
    obtain ⟨q1, q2, q3⟩ := R1.k22
    obtain ⟨r1, r2, r3⟩ := R1.k23
    obtain ⟨s1, s2, s3⟩ := R1.k24
    obtain ⟨b1, b2, b3, b4⟩ := R1.atb x1 (by omega)
    obtain ⟨c1, c2, c3, c4⟩ := R1.amo x1 (by omega)
    rw [ncl] at b4 c4
    have v21 : jL h1 (m + 21) x = nL (L 0 x) := by rw [x3, jL_sL, if_neg (by omega)]; exact g1
    have v22 : jL h1 (m + 22) x = nL (L 1 x - L 0 x) := by rw [x3, jL_sL, if_neg (by omega)]; exact g2
    have v23 : jL h1 (m + 23) x = nL (rup (L 1 x - L 0 x) (max 1 Gs)) := by rw [x3, jL_sL, if_pos ⟨rfl, rfl⟩]
    rw [p1, jd_s, p3, v21, b4, le0 (by omega), q1, jd_s, q3, v22, r1, jd_s, r3, v23, c4, s1, nI_toInt64 (by omega), nL_mul]
    have h79 : ∀ w, w = exf S (gU S) L x → VX10_close_79 g m (nI x) (some (m + 24)) (nI x) (nL (L 0 x)) (nL w) h1 0 0 Q := by
      intro w hw
      refine ⟨jsn, s2, ?_⟩
      rw [jd_s, s3, ncl, nL_add, hw]
      refine ⟨vin, ?_⟩
      intro h2 x4
      have f2 : FMl m h1 h2 := FMl.sL x4 (by decide) (by decide)
      have R2 := R1.fl f2
      obtain ⟨d1, d2, d3, d4⟩ := R2.apa x1 (by omega)
      obtain ⟨t1, t2, t3, t4⟩ := R2.aot x1 (by omega)
      rw [ncl] at d4 t4
      have wo : ot S x < x ∨ ot S x = 0 := F.2.2.2.2.2.2.2.2.2.2.2.2.1 x
      have zo : nI (ot S x) = 0 ↔ ot S x = 0 := nI_eq (b := 0) (by omega) (by decide)
      -- the result
      have fin' : ∀ h3, FMl m h2 h3 → (∀ c i, c ≠ m + 22 → jL h3 c i = jL h2 c i) → jI h3 = jI h2 → (∀ i, 1 ≤ i → i ≤ sN S → ¬ (i = cpa S x ∧ ¬ cpa S x = 0 ∧ ot S x = 0) → jL h3 (m + 22) i = jL h2 (m + 22) i) → (¬ cpa S x = 0 → ot S x = 0 → jL h3 (m + 22) (cpa S x) = nL (L 0 x + exf S (gU S) L x - L 0 (cpa S x))) → Q (.inl none) h3 := by
        intro h3 f3 kL kI k22 kp
        have a24 : jL h3 (m + 24) x = nL (L 0 x + exf S (gU S) L x) := by
          rw [kL _ _ (by omega), x4, jL_sL, if_pos ⟨rfl, rfl⟩]
        refine hQ h3 ⟨fun i i1 i2 => ?_, fun i i1 i2 hb => ?_, fun i i1 i2 hb => ?_, fun i i1 i2 hf => ?_⟩ ((f1.trans f2).trans f3) a24
        · rw [kI, x4, jI_sL, x3, jI_sL]; exact H.1 i i1 i2
        · rw [fin_6] at hb
          obtain ⟨y1, y2, y3⟩ := H.2.1 i i1 i2 hb
          rw [fin_0, fin_1, fin_3]
          refine ⟨?_, ?_, ?_⟩
          · rw [kL _ _ (by omega), x4, jL_sL, if_neg (by omega), x3, jL_sL, if_neg (by omega)]; exact y1
          · by_cases q : i = cpa S x ∧ ¬ cpa S x = 0 ∧ ot S x = 0
            · rw [if_pos q, q.1]; exact kp q.2.1 q.2.2
            · rw [if_neg q, k22 i i1 i2 q, x4, jL_sL, if_neg (by omega), x3, jL_sL, if_neg (by omega)]; exact y2
          · rw [kL _ _ (by omega), x4, jL_sL, if_neg (by omega), x3, jL_sL, if_neg (by omega)]; exact y3
        · rw [fin_6] at hb
          have q : ¬ (i = cpa S x ∧ ¬ cpa S x = 0 ∧ ot S x = 0) := fun q => hb (by rw [q.1]; exact o3 q.2.1)
          rw [k22 i i1 i2 q, x4, jL_sL, if_neg (by omega), x3, jL_sL, if_neg (by omega)]
          exact H.2.2.1 i i1 i2 hb
        · rw [fin_5] at hf
          by_cases e : i = x
          · subst e
            have ef : exf S (gU S) (fin S (gU S) i L) i = exf S (gU S) L i := HM.exf_cg (fin_0 _ _) (by rw [fin_1, if_neg (by omega)])
            rw [fin_0, ef]
            refine ⟨a24, fun ht => ?_⟩
            rw [kL _ _ (by omega), x4, jL_sL, if_neg (by omega), fin_2, if_pos rfl, if_neg ht, v23, e1 ht]; rfl
          · rw [if_neg e] at hf
            have ni := h5 i i1 hf
            have ef : exf S (gU S) (fin S (gU S) x L) i = exf S (gU S) L i := HM.exf_cg (fin_0 _ _) (by rw [fin_1, if_neg (fun q => ni q.1)])
            obtain ⟨y1, y2⟩ := H.2.2.2 i i1 i2 hf
            rw [fin_0, ef, fin_2, if_neg e]
            refine ⟨?_, fun ht => ?_⟩
            · rw [kL _ _ (by omega), x4, jL_sL, if_neg (fun q => e q.2), x3, jL_sL, if_neg (by omega)]; exact y1
            · rw [kL _ _ (by omega), x4, jL_sL, if_neg (by omega), x3, jL_sL, if_neg (fun q => e q.2)]; exact y2 ht
      refine ⟨R2.t, d1, d2, d3, ?_⟩
      rw [d4, pc, le0 (by omega), t4, zo]
      refine ⟨fun c0 => fin' h2 FMl.rf (fun _ _ _ => rfl) rfl (fun _ _ _ _ => rfl) (fun q => absurd c0 q), fun c0 => ⟨t1, t2, t3, fun c5 => fin' h2 FMl.rf (fun _ _ _ => rfl) rfl (fun _ _ _ _ => rfl) (fun _ q => absurd q c5), fun c5 => ?_⟩⟩
      obtain ⟨e1', e2', e3'⟩ := R2.k24
      obtain ⟨u1, u2, u3⟩ := R2.k21
      obtain ⟨w1, w2, w3⟩ := R2.k22
      have vinp : vp_in (nI (cpa S x)) 121 := vp_in_nI (by omega) (by decide)
      have nclp : (nI (cpa S x)).toNatClampNeg = cpa S x := nI_clamp (by omega)
      have a24 : jL h2 (m + 24) x = nL (L 0 x + exf S (gU S) L x) := by rw [x4, jL_sL, if_pos ⟨rfl, rfl⟩]
      have a21 : jL h2 (m + 21) (cpa S x) = nL (L 0 (cpa S x)) := by
        rw [x4, jL_sL, if_neg (by omega), x3, jL_sL, if_neg (by omega)]
        exact (H.2.1 _ (by omega) (by omega) (o3 c0)).1
      have le' := hpp c0 c5
      rw [e1', jd_s, e3', u1, jd_s, u3, w1, jd_s, w3, nclp, a24, a21, nL_sub (by omega)]
      refine ⟨jsn, e2', vin, jsn, u2, vinp, jsn, w2, vinp, ?_⟩
      intro h3 x5
      refine fin' h3 (FMl.sL x5 (by decide) (by decide)) (fun c i hc => ?_) (by rw [x5]; rfl) (fun i i1 i2 hi => ?_) (fun _ _ => ?_)
      · rw [x5, jL_sL, if_neg (fun q => hc q.1)]
      · rw [x5, jL_sL, if_neg (fun q => hi ⟨q.2, c0, c5⟩)]
      · rw [x5, jL_sL, if_pos ⟨rfl, rfl⟩]
    refine ⟨R1.t, jsn, p2, vin, b1, b2, b3, fun ct => ⟨jsn, q2, vin, h79 _ ?_⟩, fun ct => ⟨jsn, r2, vin, c1, c2, c3, h79 _ ?_⟩⟩
    · unfold exf; rw [if_pos ct]
    · unfold exf; rw [if_neg ct, Nat.mul_comm, e1 ct]; rfl
  refine eX10_close ⟨R.t, a1, a2, a3, ?_⟩
  obtain ⟨k1, k2, k3⟩ := R.k26
  rw [a4, le0 (by omega), k1, jd_s, k3, ncl, H.1 x x1 x2]
  refine ⟨fun c => h19 1 (Or.inl rfl) (fun q => absurd c q) (fun _ => rfl), fun c => ⟨jsn, k2, vin, h19 (G x) (by rw [← hG x x1 x2]; exact hU) (fun _ => (hG x x1 x2).symm) (fun q => absurd q c)⟩⟩
theorem s_begin (R : RS h S m) (W : WA S) (H : HM h S m G L) (hG : ∀ i, 1 ≤ i → i ≤ sN S → gU S i = max 1 (G i)) {x : Nat} (x1 : 1 ≤ x) (x2 : x ≤ sN S) (hl : lies S x = true) (h6 : L 6 x = 0) (h5 : L 5 x = 0) (hcb : ¬ cpa S x = 0 → L 6 (cpa S x) = 1 ∧ L 0 (cpa S x) ≤ L 1 (cpa S x)) (ho : ¬ ot S x = 0 → L 6 (ot S x) = 1) (hf : lte S x = true → L 6 (fnm S (na S x)) = 1) (hbd : L 4 0 + 16 < 2 ^ 63) (hbd2 : ¬ cpa S x = 0 → L 1 (cpa S x) + 16 < 2 ^ 63) (hQ : ∀ h', HM h' S m G (beg S (gU S) false x L) → FMl m h h' → Q (.inl none) h') : jM g mX10_begin [.inr (.inr (some m)), .inl (nI x), .inr (.inl (nL (L 4 0)))] h 0 0 Q := by
  have hN := W.n
  have F := W.1
  have px := W.wb.p x (by omega)
  have pc := pa_cpa W.2.1 x1 x2 hl
  have vin : vp_in (nI x) 121 := vp_in_nI (by omega) (by decide)
  have ncl : (nI x).toNatClampNeg = x := nI_clamp (by omega)
  obtain ⟨k1, k2, k3⟩ := R.k25
  -- what is written: place v, slack w
  have fin' : ∀ h3, FMl m h h3 → jI h3 = jI h → (∀ c i, ¬ (c = m + 21 ∧ i = x) → ¬ (c = m + 25 ∧ i = x) → jL h3 c i = jL h c i) → jL h3 (m + 21) x = nL (plc S (gU S) false L x) → jL h3 (m + 25) x = nL (plc S (gU S) false L x - bhd S L x) → Q (.inl none) h3 := by
    intro h3 f3 kI kL k21 k25
    refine hQ h3 ⟨fun i i1 i2 => by rw [kI]; exact H.1 i i1 i2, fun i i1 i2 hb => ?_, fun i i1 i2 hb => ?_, fun i i1 i2 hf' => ?_⟩ f3
    · rw [beg_6] at hb
      rw [beg_0, beg_1, beg_3]
      by_cases e : i = x
      · rw [if_pos e, if_pos e, if_pos e, e]
        refine ⟨k21, ?_, k25⟩
        rw [kL _ _ (by omega) (by omega), Nat.add_sub_cancel_left]
        exact H.2.2.1 x x1 x2 (by omega)
      · rw [if_neg e] at hb
        rw [if_neg e, if_neg e, if_neg e, kL _ _ (by omega) (by omega), kL _ _ (by omega) (by omega), kL _ _ (by omega) (by omega)]
        exact H.2.1 i i1 i2 hb
    · rw [beg_6] at hb
      by_cases e : i = x
      · rw [if_pos e] at hb; exact absurd rfl hb
      · rw [if_neg e] at hb
        rw [kL _ _ (by omega) (by omega)]
        exact H.2.2.1 i i1 i2 hb
    · rw [beg_5] at hf'
      have e : ¬ i = x := fun q => by rw [q, h5] at hf'; cases hf'
      obtain ⟨y1, y2⟩ := H.2.2.2 i i1 i2 hf'
      have ef : exf S (gU S) (beg S (gU S) false x L) i = exf S (gU S) L i := HM.exf_cg (by rw [beg_0, if_neg e]) (by rw [beg_1, if_neg e])
      rw [beg_0, if_neg e, ef, beg_2, kL _ _ (by omega) (by omega)]
      refine ⟨y1, fun ht => ?_⟩
      rw [kL _ _ (by omega) (by omega)]
      exact y2 ht
  refine eX10_begin ⟨R.t, ?_⟩
  rw [k1, jd_s, k3, ncl]
  refine ⟨jsn, k2, vin, ?_⟩
  intro h1 x3
  have f1 : FMl m h h1 := FMl.sL x3 (by decide) (by decide)
  have R1 := R.fl f1
  have L1 : ∀ c i, ¬ (c = m + 25 ∧ i = x) → jL h1 c i = jL h c i := fun c i q => by rw [x3, jL_sL, if_neg q]
  have I1 : jI h1 = jI h := by rw [x3]; rfl
  have H1 : HM h1 S m G L := by
    refine ⟨fun i i1 i2 => by rw [I1]; exact H.1 i i1 i2, fun i i1 i2 hb => ?_, fun i i1 i2 hb => ?_, fun i i1 i2 hb => ?_⟩
    · have e : ¬ i = x := fun q => by rw [q, h6] at hb; cases hb
      rw [L1 _ _ (by omega), L1 _ _ (by omega), L1 _ _ (by omega)]; exact H.2.1 i i1 i2 hb
    · rw [L1 _ _ (by omega)]; exact H.2.2.1 i i1 i2 hb
    · rw [L1 _ _ (by omega), L1 _ _ (by omega)]; exact H.2.2.2 i i1 i2 hb
  have s0 : jL h1 (m + 25) x = nL 0 := by rw [x3, jL_sL, if_pos ⟨rfl, rfl⟩]; rfl
  obtain ⟨t1, t2, t3, t4⟩ := R1.aot x1 (by omega)
  obtain ⟨d1, d2, d3, d4⟩ := R1.apa x1 (by omega)
  rw [ncl] at t4 d4
  have wo : ot S x < x ∨ ot S x = 0 := F.2.2.2.2.2.2.2.2.2.2.2.2.1 x
  obtain ⟨u1, u2, u3⟩ := R1.k21
  have zp : nI (cpa S x) = 0 ↔ cpa S x = 0 := nI_eq (b := 0) (by omega) (by decide)
  -- a place that isn't rounded here
  have put : ∀ hh, FMl m h hh → jI hh = jI h → (∀ c i, ¬ (c = m + 25 ∧ i = x) → jL hh c i = jL h c i) → jL hh (m + 25) x = nL 0 → (¬ ot S x = 0 ∨ cpa S x = 0) → ∀ v h3, v = nL (bhd S L x) → h3 = jsL hh (m + 21) x v → Q (.inl none) h3 := by
    intro hh fh Ih Lh sh hc v h3 hv e3
    have ep : plc S (gU S) false L x = bhd S L x := if_pos ⟨rfl, hc⟩
    refine fin' h3 (fh.trans (FMl.sL e3 (by decide) (by decide))) (by rw [e3]; exact Ih) (fun c i q1 q2 => ?_) ?_ ?_
    · rw [e3, jL_sL, if_neg q1]; exact Lh c i q2
    · rw [e3, jL_sL, if_pos ⟨rfl, rfl⟩, ep]; exact hv
    · rw [e3, jL_sL, if_neg (by omega), ep, Nat.sub_self]; exact sh
  rw [t4, le0 (by omega), d4, pc, zp, u1, jd_s, u3]
  refine ⟨t1, t2, t3, fun c => ⟨d1, d2, d3, fun c2 => ?_, fun c2 => ?_⟩, fun c => ?_⟩
  · -- below another
    obtain ⟨w1, w2, w3⟩ := R1.k22
    obtain ⟨b1, b2⟩ := hcb c2
    obtain ⟨g1, g2, g3⟩ := H1.2.1 _ (by omega) (by omega) b1
    have vinp : vp_in (nI (cpa S x)) 121 := vp_in_nI (by omega) (by decide)
    have nclp : (nI (cpa S x)).toNatClampNeg = cpa S x := nI_clamp (by omega)
    have eb : bhd S L x = L 1 (cpa S x) := bhd_p c c2
    have bd := hbd2 c2
    rw [w1, jd_s, w3, nclp, g1, g2, nL_add, show L 0 (cpa S x) + (L 1 (cpa S x) - L 0 (cpa S x)) = L 1 (cpa S x) by omega]
    refine ⟨jsn, u2, vinp, jsn, w2, vinp, s_align R1 F H1 x1 x2 ?_⟩
    rw [jki_i]
    have ea : max 1 (if tb S x = 0 ∧ sy S x = 0 then 1 else G x) = alg S (gU S) x := by
      unfold alg
      by_cases q : tb S x = 0 ∧ sy S x = 0
      · rw [if_pos q, if_pos ⟨q.2, q.1⟩]; rfl
      · rw [if_neg q, if_neg (fun z => q ⟨z.2, z.1⟩), hG x x1 x2]
    have ha := W.wb.al x
    refine s_up (by omega) (by rw [ea]; exact ha) ?_
    rw [jkl_i, ea]
    have epl : plc S (gU S) false L x = rup (L 1 (cpa S x)) (alg S (gU S) x) := by
      unfold plc
      rw [if_neg (fun q => by rcases q.2 with q | q; exact q c; exact c2 q), eb]
    rw [← epl]
    rw [u3]
    refine ⟨u2, vin, ?_⟩
    intro h2 x4
    have f2 : FMl m h1 h2 := FMl.sL x4 (by decide) (by decide)
    have R2 := R1.fl f2
    obtain ⟨p1, p2, p3⟩ := R2.k21
    obtain ⟨q1, q2, q3⟩ := R2.k25
    have v21 : jL h2 (m + 21) x = nL (plc S (gU S) false L x) := by rw [x4, jL_sL, if_pos ⟨rfl, rfl⟩]
    have ge : L 1 (cpa S x) ≤ plc S (gU S) false L x := by
      have := (plc_ge (L := L) (b := false) W.wb x).1
      rw [eb] at this; exact this
    rw [p1, jd_s, p3, q1, jd_s, q3, v21, nL_sub ge]
    refine ⟨R2.t, jsn, p2, vin, jsn, q2, vin, ?_⟩
    intro h3 x5
    refine fin' h3 ((f1.trans f2).trans (FMl.sL x5 (by decide) (by decide))) (by rw [x5, jI_sL, x4, jI_sL]; exact I1) (fun c' i y1 y2 => ?_) ?_ ?_
    · rw [x5, jL_sL, if_neg y2, x4, jL_sL, if_neg y1]; exact L1 c' i y2
    · rw [x5, jL_sL, if_neg (by omega)]; exact v21
    · rw [x5, jL_sL, if_pos ⟨rfl, rfl⟩, eb]
  · -- a record
    obtain ⟨n1, n2, n3, n4⟩ := R1.ana x1 x2 hN
    rw [ncl] at n4
    have wn : na S x ≤ 100 := F.2.2.2.2.2.2.2.2.2.2.1 x
    have h69 : ∀ b : Bool, b = lte S x → (b = true → ¬ na S x = 0) → VX10_begin_69 g m (nI x) (nL (L 4 0)) (jb b) h1 0 0 Q := by
      intro b hb hn
      refine ⟨R1.t, ?_⟩
      rw [jb_0, u1, jd_s]
      refine ⟨fun z => ?_, fun z => ?_⟩
      · have up8 : jM g mX10_up [.inr (.inl (nL (L 4 0))), .inl (nI 8)] h1 0 0 (jkl (fun (r3 : Int64) (h4 : jh) => (¬ (some (m + 21) : Option Nat) = none) ∧ (jt h4 (m + 21) = 22) ∧ (vp_in (nI x) (jn h4 (m + 21))) ∧ ∀ h8 : jh, h8 = jsL h4 (m + 21) (nI x : Int32).toNatClampNeg (r3) → Q (.inl none) h8) (fun e h9 => Q (.inr e) h9)) := by
          refine s_up (by omega) (Or.inr (Or.inr (Or.inr rfl))) ?_
          rw [jkl_i, u3, ncl]
          refine ⟨jsn, u2, vin, fun h3 x4 => put h1 f1 I1 L1 s0 (Or.inr c2) _ h3 ?_ x4⟩
          rw [bhd_r c c2 (by rw [← hb]; exact z)]
          rfl
        exact up8
      · have bt : b = true := by simpa using z
        have hl' : lte S x = true := by rw [← hb]; exact bt
        refine s_firstOf R1 W x1 x2 (hn bt) ?_
        rw [jki_i]
        obtain ⟨fn1, fn2, -, -⟩ := W.wb.fn x1 x2 hl'
        have vinf : vp_in (nI (fnm S (na S x))) 121 := vp_in_nI (by omega) (by decide)
        rw [u3, ncl, nI_clamp (by omega), (H1.2.1 _ fn1 (by omega) (hf hl')).1]
        refine ⟨jsn, u2, vinf, vin, fun h3 x4 => put h1 f1 I1 L1 s0 (Or.inr c2) _ h3 ?_ x4⟩
        rw [bhd_n c c2 hl']
    rw [n4, nam1 wn]
    refine ⟨n1, n2, n3, fun z => h69 false ?_ (fun q => by cases q), fun z => s_firstOf R1 W x1 x2 z ?_⟩
    · exact (decide_eq_false (fun q => q.1 z)).symm
    · have fl := fnm_le S (na S x)
      rw [jki_i, nI_eq (by omega) (by omega)]
      refine ⟨fun z2 => h69 false (decide_eq_false (fun q => q.2 z2)).symm (fun q => by cases q), fun z2 => h69 true (decide_eq_true ⟨z, z2⟩).symm (fun _ => z)⟩
  · -- over another
    have vino : vp_in (nI (ot S x)) 121 := vp_in_nI (by omega) (by decide)
    have nclo : (nI (ot S x)).toNatClampNeg = ot S x := nI_clamp (by omega)
    rw [nclo, (H1.2.1 _ (by omega) (by omega) (ho c)).1]
    refine ⟨jsn, u2, vino, vin, fun h3 x4 => put h1 f1 I1 L1 s0 (Or.inl c) _ h3 ?_ x4⟩
    rw [bhd_o c]
end ModB
