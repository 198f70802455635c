/-! contracts: Plan.placeParts, layAll -/
section Lay5
variable {g : jg} {h : jh} {S : sg} {tr rw pn : Nat} {ad : Nat → Nat} {Q : jq} {U : Nat → Nat} {L : lm}
theorem RTree.rni (R : RTree h S tr rw ad) {i : Nat} (hi1 : 1 ≤ i) (hi2 : i ≤ sN S) : jr h 15 (ad i) = rO ad (rn S i) ∧ jr h 16 (ad i) = rO ad (rm S i) := by
  obtain ⟨x1, x2, x3, x4, x5, x6, x7, x8, x9, x10, x11, x12, x13, x14, x15, x16, x17, x18, x19, x20, x21⟩ := R.i hi1 hi2
  exact ⟨x17, x18⟩
theorem HL.pt (H : HL h S pn ad U L) : jt h pn = 2 := H.2.2.2.2.2.2.1
/-- another item's place and end change -/
theorem HL.sl2 (R : RTree h S tr rw ad) (H : HL h S pn ad U L) {j : Nat} (hj1 : 1 ≤ j) (hj2 : j ≤ sN S) (h6 : ¬ L 6 j = 1) {k : Nat} (hk : k = 192 ∨ k = 193) {v : Int64} {h' : jh} (e : h' = jsl h k (ad j + 1) v) : HL h' S pn ad U L := by
  obtain ⟨y1, y2, y3, y4, y5, y6, y7, y8⟩ := H
  refine ⟨?_, fun i a b => ?_, fun i a b q => ?_, fun i t a b q z => ?_, fun i a b q => ?_, fun i k2 t a b c d z f => ?_, ?_, y8⟩
  · rw [e, jl_sl, if_neg (by omega)]; exact y1
  · rw [e, ji_sl]; exact y2 i a b
  · have ne : ¬ ad i + 1 = ad j + 1 := fun z => by
      have := (R.adj a b hj1 hj2).mp z
      rw [this] at q; exact h6 q
    rw [e, jl_sl, if_neg (fun z => ne z.2), jl_sl, if_neg (fun z => ne z.2), ji_sl]
    exact y3 i a b q
  · rw [e, jr_sl] at z
    rw [e, jl_sl, if_neg (by omega)]
    exact y4 i t a b q z
  · rw [e, ji_sl]; exact y5 i a b q
  · rw [e, jr_sl] at z f
    exact y6 i k2 t a b c d z f
  · rw [e]; exact y7
theorem c_placeParts (R : RTree h S tr rw ad) (hp : jr h 64 pn = some tr) (H : HL h S pn ad U L) (hb : ∀ i, 1 ≤ i → i ≤ sN S → ¬ rn S i = 0 → ¬ rm S i = 0 → L 6 (rn S i) = 1 ∧ L 6 (rm S i) = 1 ∧ ¬ L 6 i = 1) (hQ : ∀ h', HL h' S pn ad U L → FL h h' → (∀ c, jr h' 197 c = jr h 197 c) → (∀ i, 1 ≤ i → i ≤ sN S → ¬ rn S i = 0 → ¬ rm S i = 0 → jl h' 192 (ad i + 1) = nL (L 0 (rn S i)) ∧ jl h' 193 (ad i + 1) = nL (L 1 (rm S i))) → Q (.inl none) h') : jM g mX3_placeParts [.inr (.inr (some pn))] h 0 0 Q := by
  have hN := R.N
  have loop : ∀ n j h1, j + n = sN S + 1 → 1 ≤ j → FL h h1 → (∀ c, jr h1 197 c = jr h 197 c) → HL h1 S pn ad U L → (∀ i, 1 ≤ i → i < j → ¬ rn S i = 0 → ¬ rm S i = 0 → jl h1 192 (ad i + 1) = nL (L 0 (rn S i)) ∧ jl h1 193 (ad i + 1) = nL (L 1 (rm S i))) → jG g mX3_placeParts 2 [(0, .inr (.inr (some pn))), (1, .inl (nI j))] [] h1 0 0 Q := by
    intro n
    induction n with
    | zero =>
      intro j h1 e _ F1 k1 H1 d1
      have R1 := R.fl F1
      have hp1 : jr h1 64 pn = some tr := by rw [F1.2.2.2.2.2.2.2.2 64 (by decide)]; exact hp
      refine vX3_placeParts_2 ⟨H1.pt, ?_⟩
      rw [hp1, jd_s, R1.told]
      exact ⟨jsn, R1.tg, fun _ => hQ h1 H1 F1 k1 (fun i a b => d1 i a (by omega)), fun c => absurd (nI_lt (by omega) (by omega)) c⟩
    | succ n ih =>
      intro j h1 e hj F1 k1 H1 d1
      have hjN : j ≤ sN S := by omega
      have R1 := R.fl F1
      obtain ⟨w1, w2, w3, w4⟩ := R1.row (i := j) hj hjN
      have hp1 : jr h1 64 pn = some tr := by rw [F1.2.2.2.2.2.2.2.2 64 (by decide)]; exact hp
      have z1 : rO ad (rn S j) = none ↔ rn S j = 0 := rO_none
      have z2 : rO ad (rm S j) = none ↔ rm S j = 0 := rO_none
      have wn : rn S j ≤ sN S := R.wf.2.2.2.2.2.2.2.2.2.2.2.2.2.1 j
      have wm : rm S j ≤ sN S := R.wf.2.2.2.2.2.2.2.2.2.2.2.2.2.2.1 j
      refine vX3_placeParts_2 ⟨H1.pt, ?_⟩
      rw [hp1, jd_s, R1.told]
      refine ⟨jsn, R1.tg, fun c => absurd c (nI_nlt (by omega) (by omega)), fun _ => ⟨w1, w2, w3, ?_⟩⟩
      rw [w4, jd_s, nI_1, (R1.rni hj hjN).1, (R1.rni hj hjN).2, z1, z2]
      have go : (rn S j = 0 ∨ rm S j = 0) → jG g mX3_placeParts 2 [(0, .inr (.inr (some pn))), (1, .inl (nI (j + 1)))] [] h1 0 0 Q := fun q => ih (j + 1) h1 (by omega) (by omega) F1 k1 H1 (fun i a b c d => d1 i a (by
        by_cases w : i = j
        · rw [w] at c d; omega
        · omega) c d)
      refine ⟨jsn, R1.ty hj hjN, fun c => go (Or.inl c), fun c => ⟨fun c2 => go (Or.inr c2), fun c2 => ?_⟩⟩
      obtain ⟨b1, b2, b3⟩ := hb j hj hjN c c2
      rw [rO_jd c, R1.sp (by omega) wn, jd_s, R1.sp hj hjN, jd_s]
      refine ⟨R1.ty (by omega) wn, jsn, R1.st (by omega) wn, jsn, R1.st hj hjN, ?_⟩
      intro h2 e2
      rw [(H1.2.2.1 _ (by omega) wn b1).1] at e2
      have F2 : FL h h2 := F1.trans (FL.sl e2 (by omega))
      have R2 := R.fl F2
      have H2 : HL h2 S pn ad U L := H1.sl2 R1 hj hjN b3 (Or.inl rfl) e2
      rw [(R2.rni hj hjN).2, rO_jd c2, R2.sp (by omega) wm, jd_s, R2.sp hj hjN, jd_s, (H2.2.2.1 _ (by omega) wm b2).2.1]
      refine ⟨fun q => c2 (rO_none.mp q), R2.ty (by omega) wm, jsn, R2.st (by omega) wm, jsn, R2.st hj hjN, ?_⟩
      intro h3 e3
      refine ih (j + 1) h3 (by omega) (by omega) (F2.trans (FL.sl e3 (by omega))) (fun c => by rw [e3, jr_sl, e2, jr_sl]; exact k1 c) (H2.sl2 R2 hj hjN b3 (Or.inr rfl) e3) (fun i a b c d => ?_)
      by_cases w : i = j
      · rw [w, e3, jl_sl, if_neg (by omega), e2, jl_sl, if_pos ⟨rfl, rfl⟩, jl_sl, if_pos ⟨rfl, rfl⟩]
        exact ⟨rfl, rfl⟩
      · have ne : ¬ ad i + 1 = ad j + 1 := fun z => w ((R.adj a (by omega) hj hjN).mp z)
        rw [e3, jl_sl, if_neg (by omega), jl_sl, if_neg (fun z => ne z.2), e2, jl_sl, if_neg (fun z => ne z.2), jl_sl, if_neg (by omega)]
        exact d1 i a (by omega) c d
  exact eX3_placeParts (loop (sN S) 1 h (by omega) (by omega) FL.rf (fun _ => rfl) H (fun i a b => by omega))
theorem HL.fu {h' : jh} (H : HL h S pn ad U L) (F : FU h h') (h4 : ji h' 194 = ji h 194) : HL h' S pn ad U L := by
  obtain ⟨y1, y2, y3, y4, y5, y6, y7, y8⟩ := H
  obtain ⟨F1, F2, F3, F4⟩ := F
  have r10 : jr h' 10 = jr h 10 := F1.2.2.2.2.2.2.2.2 10 (by decide)
  refine ⟨by rw [F2]; exact y1, fun i a b => by rw [h4]; exact y2 i a b, fun i a b q => by rw [F2, F3, F4]; exact y3 i a b q, fun i t a b q z => by rw [F2]; rw [r10] at z; exact y4 i t a b q z, fun i a b q => by rw [F3]; exact y5 i a b q, fun i k2 t a b c d z f => by rw [r10] at z f; exact y6 i k2 t a b c d z f, by rw [F1.2.1]; exact y7, y8⟩
/-- the heap behind layAll -/
def HF (h : jh) (S : sg) (pn : Nat) (ad : Nat → Nat) : Prop := HL h S pn ad (gU S) (mfin S (gU S) true) ∧ (∀ i, 1 ≤ i → i ≤ sN S → ¬ rn S i = 0 → ¬ rm S i = 0 → jl h 192 (ad i + 1) = nL (mfin S (gU S) true 0 (rn S i)) ∧ jl h 193 (ad i + 1) = nL (mfin S (gU S) true 1 (rm S i))) ∧ ∀ i, 1 ≤ i → i ≤ sN S → mvf S i ≤ sN S ∧ jr h 197 (ad i + 1) = if mvf S i = 0 then none else jr h 10 (ad (mvf S i))
/-- what renames lies -/
def WP (S : sg) : Prop := ∀ i, 1 ≤ i → i ≤ sN S → ¬ rn S i = 0 → lv S i = 66 ∧ lies S (rn S i) = true ∧ (¬ rm S i = 0 → lies S (rm S i) = true)
theorem c_layAll (R : RTree h S tr rw ad) (hp : jr h 64 pn = some tr) (hpt : jt h pn = 2) (J : RJ h S ad) (W : WB S (gU S)) (WLh : WL S) (P : WP S) (hQ : ∀ h', HF h' S pn ad → FL h h' → Q (.inl none) h') : jM g mX3_layAll [.inr (.inr (some pn))] h 0 0 Q := by
  have hN := R.N
  have lv6 : ∀ i, lies S i = true → ¬ lv S i = 66 ∧ ¬ lv S i = 88 := fun i hl => by
    unfold lies at hl
    rw [Bool.or_eq_true, decide_eq_true_eq, decide_eq_true_eq] at hl
    omega
  have loop : ∀ n i h1, i + n = sN S → FL h h1 → (∀ j, 1 ≤ j → j ≤ sN S → jr h1 197 (ad j + 1) = none) → HL h1 S pn ad (gU S) (mst S (gU S) true i) → jG g mX3_layAll 13 [(0, .inr (.inr (some pn))), (1, .inr (.inr (rO ad (opn S i)))), (2, .inl (nI (i + 1)))] [] h1 0 0 Q := by
    intro n
    induction n with
    | zero =>
      intro i h1 e F1 k1 H1
      have ei : i = sN S := by omega
      have R1 := R.fl F1
      have hp1 : jr h1 64 pn = some tr := by rw [F1.2.2.2.2.2.2.2.2 64 (by decide)]; exact hp
      refine vX3_layAll_13 ⟨H1.pt, ?_⟩
      rw [hp1, jd_s, R1.told]
      refine ⟨jsn, R1.tg, fun _ => ?_, fun c => absurd (nI_lt (by omega) (by omega)) c⟩
      rw [ei] at H1 ⊢
      refine c_finishUpTo (last := 0) R1 H1 (opn_le _) (by omega) (INV.foks W (Nat.le_refl _) hN _ _ _ (INV.ms W _ (Nat.le_refl _))) (fun h2 H2 F2 k2 => ?_)
      rw [jkv_i]
      have R2 := R1.fl F2
      have hp2 : jr h2 64 pn = some tr := by rw [F2.2.2.2.2.2.2.2.2 64 (by decide)]; exact hp1
      refine ⟨H2.pt, c_placeParts R2 hp2 H2 (fun i a b c d => ?_) (fun h3 H3 F3 k3 d3 => ?_)⟩
      · have p := P i a b c
        have wn : rn S i ≤ sN S := R.wf.2.2.2.2.2.2.2.2.2.2.2.2.2.1 i
        have wm : rm S i ≤ sN S := R.wf.2.2.2.2.2.2.2.2.2.2.2.2.2.2.1 i
        refine ⟨(fin_b (b := true) W hN (by omega) wn p.2.1).1, (fin_b (b := true) W hN (by omega) wm (p.2.2 d)).1, ?_⟩
        have hl : lies S i = false := by unfold lies; rw [p.1]; rfl
        have e0 : mfin S (gU S) true 6 i = 0 := by
          rw [mfin_at W.p (by omega) b (Nat.le_refl _)]
          exact fin_n W hl _ (Nat.le_refl _)
        show ¬ mfin S (gU S) true 6 i = 1
        rw [e0]; decide
      · rw [jkv_i]
        have R3 := R2.fl F3
        have hp3 : jr h3 64 pn = some tr := by rw [F3.2.2.2.2.2.2.2.2 64 (by decide)]; exact hp2
        refine ⟨H3.pt, c_markMoving R3 hp3 H3.pt (fun i a b => by rw [k3, k2]; exact k1 i a b) (fun h4 F4 k4 d4 => ?_)⟩
        rw [jkv_i]
        refine hQ h4 ⟨H3.fu F4 k4, fun i a b c d => ?_, fun i a b => ⟨(d4 i a b).1, ?_⟩⟩ (((F1.trans F2).trans F3).trans F4.1)
        · rw [F4.2.1]; exact d3 i a b c d
        · rw [(d4 i a b).2, F4.1.2.2.2.2.2.2.2.2 10 (by decide)]
    | succ n ih =>
      intro i h1 e F1 k1 H1
      have hi : i + 1 ≤ sN S := by omega
      have R1 := R.fl F1
      obtain ⟨w1, w2, w3, w4⟩ := R1.row (i := i + 1) (by omega) hi
      have hp1 : jr h1 64 pn = some tr := by rw [F1.2.2.2.2.2.2.2.2 64 (by decide)]; exact hp
      refine vX3_layAll_13 ⟨H1.pt, ?_⟩
      rw [hp1, jd_s, R1.told]
      refine ⟨jsn, R1.tg, fun c => absurd c (nI_nlt (by omega) (by omega)), fun _ => ⟨w1, w2, w3, ?_⟩⟩
      rw [w4, jd_s, nI_1]
      refine ⟨jsn, R1.ty (by omega) hi, c_lies R1 WLh (by omega) hi ?_⟩
      rw [jki_i, jb_0]
      refine ⟨fun c => ?_, fun c => ?_⟩
      · have e1 : opn S (i + 1) = opn S i := by show (if _ then _ else _) = _; rw [if_neg (by rw [c]; decide)]
        have e2 : mst S (gU S) true (i + 1) = mst S (gU S) true i := by rw [mst_succ, if_neg (by rw [c]; decide)]
        have := ih (i + 1) h1 (by omega) F1 k1 (by rw [e2]; exact H1)
        rw [e1] at this
        exact this
      · have hl : lies S (i + 1) = true := by simpa using c
        have pc := W.p (i + 1) (by omega)
        rw [R1.pr (by omega) hi]
        have ol := opn_le (S := S) i
        refine ⟨R1.ty (by omega) hi, H1.pt, c_finishUpTo R1 H1 (by omega) (by omega) (INV.foks W (by omega) hN _ _ _ (INV.ms W _ (by omega))) (fun h2 H2 F2 k2 => ?_)⟩
        rw [jkv_i]
        have R2 := R1.fl F2
        have hp2 : jr h2 64 pn = some tr := by rw [F2.2.2.2.2.2.2.2.2 64 (by decide)]; exact hp1
        have V := INV.nx (b := true) W hi hl
        have rs : some (ad (i + 1)) = rO ad (i + 1) := (rO_some (by omega)).symm
        rw [rs]
        refine ⟨H2.pt, c_begin R2 hp2 H2 (by omega) hi (lv6 _ hl) (fun hc => ?_) (fun ho => ?_) (fun hf => ?_) (fun h3 H3 F3 k3 => ?_)⟩
        · have lc := (W.ch (by omega) hi hl hc).1
          exact (V.1 _ (by omega) (by omega) lc).1
        · obtain ⟨o1, o2, -⟩ := W.o (by omega) hi ho
          exact (V.1 _ (by omega) (by omega) o2).1
        · obtain ⟨f1, f2, f3, -⟩ := W.fn (by omega) hi hf
          exact (V.1 _ (by omega) (by omega) (by unfold lies; rw [f3]; rfl)).1
        · rw [jkv_i]
          have e1 : opn S (i + 1) = i + 1 := by show (if _ then _ else _) = _; rw [if_pos hl]
          have e2 : mst S (gU S) true (i + 1) = beg S (gU S) true (i + 1) (fup S (gU S) (opn S i) (cpa S (i + 1)) (mst S (gU S) true i)) := by rw [mst_succ, if_pos hl]
          have := ih (i + 1) h3 (by omega) ((F1.trans F2).trans F3) (fun j a b => by rw [k3, k2]; exact k1 j a b) (by rw [e2]; exact H3)
          rw [e1] at this
          exact this
  refine eX3_layAll ⟨hpt, ?_⟩
  intro h1 e1
  have F1 : FL h h1 := FL.sl e1 (by omega)
  refine c_gather (R.fl F1) (by rw [e1, jr_sl]; exact hp) (by rw [e1]; exact hpt) (fun h2 F2 k2 => ?_)
  rw [jkv_i]
  have r10 : jr h2 10 = jr h 10 := (F1.trans F2.1).2.2.2.2.2.2.2.2 10 (by decide)
  refine loop (sN S) 0 h2 (by omega) (F1.trans F2.1) (fun j a b => (k2 j a b).2) ⟨?_, fun i a b => (k2 i a b).1, fun i a b q => ?_, fun i t a b q => ?_, fun i a b q => ?_, fun i j t a b c d e f => ?_, ?_, fun i a b => W.u i⟩
  · rw [F2.2.1, e1, jl_sl, if_pos ⟨rfl, rfl⟩]; rfl
  · cases q
  · cases q
  · rw [F2.2.2.1, e1, ji_sl]; exact J.2.2 i a b q
  · rw [r10] at e f
    exact J.1 i j t a b c d e f
  · rw [F2.1.2.1, e1]; exact hpt
end Lay5
