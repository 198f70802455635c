/-! contracts: Plan.isRight, firstWrong -/
section Lay7
variable {g : jg} {h : jh} {S : sg} {tr rw pn : Nat} {ad : Nat → Nat} {Q : jq}
theorem RR.nn (R : RTree h S tr rw ad) {i : Nat} (hi1 : 1 ≤ i) (hi2 : i ≤ sN S) : jr h 14 (ad i) = none ↔ rg S i = 0 := by
  obtain ⟨r1, r2⟩ := R.r hi1 hi2
  constructor
  · intro q
    by_cases z : rg S i = 0
    · exact z
    · obtain ⟨r, y, -⟩ := r2 z
      rw [y] at q; cases q
  · exact r1
theorem c_isRight (R : RTree h S tr rw ad) (hp : jr h 64 pn = some tr) (F : HF h S pn ad) (W : WB S (gU S)) (WLh : WL S) {i : Nat} (hi1 : 1 ≤ i) (hi2 : i ≤ sN S) (hQ : Q (.inl (some (.inl (jb (rgt S (gU S) true (mfin S (gU S) true) i))))) h) : jM g mX3_isRight [.inr (.inr (some pn)), .inr (.inr (rO ad i))] h 0 0 Q := by
  have hN := R.N
  have hi0 : ¬ i = 0 := by omega
  have hpt := F.1.pt
  have h1 := jq_t hQ
  have h0 := jq_f hQ
  have hl := R.lvl hi1 hi2
  have lvk : ∀ k : Nat, k < 1000 → (ji h 1 (ad i) = nI k ↔ lv S i = k) := fun k hk => by
    rw [← Int32.toInt_inj, hl, nI_toInt (by omega)]; omega
  have u0 : ji h 2 (ad i) = 0 ↔ us S i = 0 := by
    rw [(R.i hi1 hi2).2.2.2.2.1, show (0 : Int32) = nI 0 from rfl, nI_eq (by have := R.wf.us i; omega) (by decide)]
  have b0 : ji h 9 (ad i) = 0 ↔ lb S i = 0 := by
    rw [(R.i hi1 hi2).2.2.2.2.2.2.2.2.2.2.2.2.1, show (0 : Int32) = nI 0 from rfl, nI_eq (by have := R.wf.2.2.2.2.2.2.2.2.2.2.2.2.2.2.2.2.2.2 i; omega) (by decide)]
  refine eX3_isRight ⟨fun q => hi0 (rO_none.mp q), ?_⟩
  have e88 : ji h 1 (ad i) = 88 ↔ lv S i = 88 := lvk 88 (by decide)
  have e66 : ji h 1 (ad i) = 66 ↔ lv S i = 66 := lvk 66 (by decide)
  rw [rO_jd hi0, e88, e66, u0, b0, RR.nn R hi1 hi2, (R.rni hi1 hi2).1, (R.rni hi1 hi2).2]
  refine ⟨R.ty hi1 hi2, fun n88 => ⟨fun n66 => ?_, fun y66 => ⟨hpt, ?_⟩⟩, fun y88 => ?_⟩
  · have ll : lies S i = true := by
      have := WLh i hi1 hi2
      unfold lies
      rw [Bool.or_eq_true, decide_eq_true_eq, decide_eq_true_eq]
      omega
    obtain ⟨f1, f2, f3, f4, f5, f6, f7⟩ := fin_b (b := true) W hN hi1 hi2 ll
    have er : rgt S (gU S) true (mfin S (gU S) true) i = decide (¬ (us S i = 0 ∧ lb S i = 0) ∧ (tb S i = 2 → lst S i = true) ∧ (¬ ot S i = 0 → (if true = true then mfin S (gU S) true 0 i = mfin S (gU S) true 0 (ot S i) else rup (mfin S (gU S) true 0 i) (alg S (gU S) i) = mfin S (gU S) true 0 i) ∧ (lv S i = 1 ∨ xtn S (mfin S (gU S) true) i ≤ xtn S (mfin S (gU S) true) (ot S i))) ∧ (¬ na S i = 0 → mfin S (gU S) true 1 (fnm S (na S i)) - mfin S (gU S) true 0 (fnm S (na S i)) = mfin S (gU S) true 1 i - mfin S (gU S) true 0 i)) := by
      unfold rgt
      rw [if_neg n88, if_neg n66]
    rw [er] at h1 h0
    obtain ⟨g1, g2, g3, g4⟩ := F.1.2.2.1 i hi1 hi2 f1
    have h105 : ¬ (us S i = 0 ∧ lb S i = 0) → (tb S i = 2 → lst S i = true) → (¬ ot S i = 0 → (mfin S (gU S) true 0 i = mfin S (gU S) true 0 (ot S i)) ∧ (lv S i = 1 ∨ xtn S (mfin S (gU S) true) i ≤ xtn S (mfin S (gU S) true) (ot S i))) → VX3_isRight_105 g pn (rO ad i) h 0 0 Q := by
      intro c1 c2 c3
      refine ⟨hpt, c_fitsName R hp hpt hi1 hi2 g1 g2 f3 (p' := mfin S (gU S) true 0 (fnm S (na S i))) (e' := mfin S (gU S) true 1 (fnm S (na S i))) (fun hn => ?_) (by omega) ?_⟩
      · have lf : lies S (fnm S (na S i)) = true ∧ 1 ≤ fnm S (na S i) := by
          by_cases he : fnm S (na S i) = i
          · rw [he]; exact ⟨ll, hi1⟩
          · obtain ⟨w1, w2, w3, w4⟩ := W.fn hi1 hi2 (decide_eq_true ⟨hn, he⟩)
            refine ⟨?_, w1⟩
            unfold lies; rw [w3]; rfl
        obtain ⟨k1, k2, k3, k4, k5, k6, k7⟩ := fin_b (b := true) W hN lf.2 (fnm_le S _) lf.1
        obtain ⟨m1, m2, m3, m4⟩ := F.1.2.2.1 _ lf.2 (fnm_le S _) k1
        exact ⟨m1, m2, k3, by omega⟩
      · rw [jki_i, jb_0]
        refine ⟨fun z => h0 (decide_eq_false (fun y => (of_decide_eq_false z) y.2.2.2)), fun z => h1 (decide_eq_true ⟨c1, c2, fun q => ?_, ?_⟩)⟩
        · rw [if_pos rfl]; exact c3 q
        · exact Decidable.byContradiction (fun n => z (decide_eq_false n))
    have h87 : ¬ (us S i = 0 ∧ lb S i = 0) → (tb S i = 2 → lst S i = true) → VX3_isRight_87 g pn (rO ad i) h 0 0 Q := by
      intro c1 c2
      have z1 : rO ad (ot S i) = none ↔ ot S i = 0 := rO_none
      refine ⟨fun q => hi0 (rO_none.mp q), ?_⟩
      rw [rO_jd hi0, R.oth hi1 hi2, z1]
      refine ⟨R.ty hi1 hi2, fun q => h105 c1 c2 (fun z => absurd q z), fun q => ?_⟩
      obtain ⟨o1, o2, o3, o4, o5, o6⟩ := W.o hi1 hi2 q
      obtain ⟨k1, k2, k3, k4, k5, k6, k7⟩ := fin_b (b := true) W hN (i := ot S i) (by omega) (by omega) o2
      obtain ⟨m1, m2, m3, m4⟩ := F.1.2.2.1 (ot S i) (by omega) (by omega) k1
      refine c_fitsOver R hi1 hi2 (by omega) (by omega) g1 g2 f3 (fun t ht => F.1.2.2.2.1 i t hi1 hi2 f2 ht) m1 m2 k3 (fun t ht => F.1.2.2.2.1 _ t (by omega) (by omega) k2 ht) (by omega) (by omega) (Nat.lt_trans f5 (by decide)) (Nat.lt_trans k5 (by decide)) ?_
      rw [jki_i, jb_0]
      refine ⟨fun z => h0 (decide_eq_false (fun y => ?_)), fun z => h105 c1 c2 (fun _ => ?_)⟩
      · have := y.2.2.1 q
        rw [if_pos rfl] at this
        exact (of_decide_eq_false z) this
      · exact Decidable.byContradiction (fun n => z (decide_eq_false n))
    have h60 : ¬ (us S i = 0 ∧ lb S i = 0) → VX3_isRight_60 g pn (rO ad i) h 0 0 Q := by
      intro c1
      refine ⟨fun q => hi0 (rO_none.mp q), ?_⟩
      rw [rO_jd hi0]
      refine ⟨R.ty hi1 hi2, fun q => h87 c1 (fun t2 => ?_), fun q => ?_⟩
      · have := (RT.nn R hi1 hi2).mp q
        omega
      · obtain ⟨t, ht⟩ : ∃ t, jr h 10 (ad i) = some t := by
          cases hq : jr h 10 (ad i) with
          | none => exact absurd hq q
          | some t => exact ⟨t, rfl⟩
        obtain ⟨y0, y1, y2, y3, y4, y5⟩ := RT.le R hi1 hi2 ht
        rw [ht, jd_s, y4]
        by_cases t2 : tb S i = 2
        · rw [if_pos t2]
          refine ⟨y1, fun z => absurd z (by decide), fun _ => ⟨hpt, c_lastOfRecord R hp hpt WLh hi1 hi2 ?_⟩⟩
          rw [jki_i, jb_0]
          refine ⟨fun z => h87 c1 (fun _ => by simpa using z), fun z => h0 (decide_eq_false (fun y => ?_))⟩
          rw [y.2.1 t2] at z; cases z
        · rw [if_neg t2]
          exact ⟨y1, fun _ => h87 c1 (fun z => absurd z t2), fun z => absurd rfl z⟩
    exact ⟨fun z => h60 (fun y => z y.1), fun z => ⟨fun y => h60 (fun x => y x.2), fun y => h0 (decide_eq_false (fun x => x.1 ⟨z, y⟩))⟩⟩
  · have er : rgt S (gU S) true (mfin S (gU S) true) i = rpt S (rn S i) (rm S i) := by
      unfold rgt
      rw [if_neg n88, if_pos y66]
    refine c_rightPart R hp hpt (R.wf.2.2.2.2.2.2.2.2.2.2.2.2.2.1 i) (R.wf.2.2.2.2.2.2.2.2.2.2.2.2.2.2.1 i) ?_
    rw [jki_i, ← er]
    exact ⟨jb_01 _, hQ⟩
  · have er : rgt S (gU S) true (mfin S (gU S) true) i = decide (¬ rg S i = 0) := by
      unfold rgt
      rw [if_pos y88]
    rw [er] at h1 h0
    exact ⟨fun z => h0 (decide_eq_false (fun y => y z)), fun z => h1 (decide_eq_true z)⟩
theorem c_firstWrong (R : RTree h S tr rw ad) (hp : jr h 64 pn = some tr) (F : HF h S pn ad) (W : WB S (gU S)) (WLh : WL S) (hQ : Q (.inl (some (.inl (if fwr S (gU S) true = 0 then -1 else nI (fwr S (gU S) true))))) h) : jM g mX3_firstWrong [.inr (.inr (some pn))] h 0 0 Q := by
  have hN := R.N
  have loop : ∀ n j, j + n = sN S + 1 → 1 ≤ j → fstU (fun i => ! rgt S (gU S) true (mfin S (gU S) true) i) j n = fwr S (gU S) true → jG g mX3_firstWrong 2 [(0, .inr (.inr (some pn))), (1, .inl (nI j))] [] h 0 0 Q := by
    intro n
    induction n with
    | zero =>
      intro j e _ er
      refine vX3_firstWrong_2 ⟨F.1.pt, ?_⟩
      rw [hp, jd_s, R.told]
      have er' : fwr S (gU S) true = 0 := er.symm
      rw [if_pos er'] at hQ
      exact ⟨jsn, R.tg, fun _ => hQ, fun z => absurd (nI_lt (by omega) (by omega)) z⟩
    | succ n ih =>
      intro j e hj er
      have hjN : j ≤ sN S := by omega
      obtain ⟨w1, w2, w3, w4⟩ := R.row (i := j) hj hjN
      refine vX3_firstWrong_2 ⟨F.1.pt, ?_⟩
      rw [hp, jd_s, R.told, w4, nI_1, ← rO_some (ad := ad) (show ¬ j = 0 by omega)]
      refine ⟨jsn, R.tg, fun z => absurd z (nI_nlt (by omega) (by omega)), fun _ => ⟨w1, w2, w3, c_isRight R hp F W WLh hj hjN ?_⟩⟩
      rw [jki_i, jb_0]
      have es : fstU (fun i => ! rgt S (gU S) true (mfin S (gU S) true) i) j (n + 1) = if (! rgt S (gU S) true (mfin S (gU S) true) j) = true then j else fstU (fun i => ! rgt S (gU S) true (mfin S (gU S) true) i) (j + 1) n := rfl
      rw [es] at er
      refine ⟨fun z => ih (j + 1) (by omega) (by omega) ?_, fun z => ?_⟩
      · have z' : rgt S (gU S) true (mfin S (gU S) true) j = true := by simpa using z
        rw [z', if_neg (by decide)] at er
        exact er
      · rw [z, if_pos (by decide)] at er
        rw [← er, if_neg (by omega)] at hQ
        exact hQ
  exact eX3_firstWrong (loop (sN S) 1 (by omega) (by omega) rfl)
end Lay7
