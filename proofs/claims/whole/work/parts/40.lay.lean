/-! contracts: Plan.begin -/
section Lay2
variable {g : jg} {h : jh} {S : sg} {tr rw pn : Nat} {ad : Nat → Nat} {Q : jq} {U : Nat → Nat} {L : lm}
theorem fnm_nai (R : RTree h S tr rw ad) {i : Nat} (hi1 : 1 ≤ i) (hi2 : i ≤ sN S) : ji h 19 (ad i) = nI (na S i) - 1 := (R.i hi1 hi2).2.2.2.2.2.2.2.2.2.2.2.2.2.2.2.2.2.2.2.2
theorem c_isLater (R : RTree h S tr rw ad) (hp : jr h 64 pn = some tr) (hpt : jt h pn = 2) {i : Nat} (hi1 : 1 ≤ i) (hi2 : i ≤ sN S) (hQ : Q (.inl (some (.inl (jb (lte S i))))) h) : jM g mX3_isLaterExternal [.inr (.inr (some pn)), .inr (.inr (rO ad i))] h 0 0 Q := by
  have h1 := jq_t hQ
  have h0 := jq_f hQ
  have hi0 : ¬ i = 0 := by omega
  refine eX3_isLaterExternal ⟨fun q => hi0 (rO_none.mp q), ?_⟩
  rw [rO_jd hi0, R.nai hi1 hi2]
  refine ⟨R.ty hi1 hi2, fun c => h0 (decide_eq_false (fun q => q.1 c)), fun c => ⟨hpt, ?_⟩⟩
  rw [hp, jd_s, fnm_nai R hi1 hi2]
  refine ⟨jsn, R.tg, c_firstOfName R (R.wf.2.2.2.2.2.2.2.2.2.2.1 i) ?_⟩
  rw [jkr_i, R.rO_inj (fnm_le S _) hi2]
  exact ⟨fun c2 => h0 (decide_eq_false (fun q => q.2 c2)), fun c2 => h1 (decide_eq_true ⟨c, c2⟩)⟩
theorem c_beginOfRecord (R : RTree h S tr rw ad) (hp : jr h 64 pn = some tr) (H : HL h S pn ad U L) {i : Nat} (hi1 : 1 ≤ i) (hi2 : i ≤ sN S) (hc : cpa S i = 0) (ho : ¬ ot S i = 0 → L 6 (ot S i) = 1) (hf : lte S i = true → L 6 (fnm S (na S i)) = 1) (hQ : Q (.inl (some (.inr (.inl (nL (bhd S L i)))))) h) : jM g mX3_beginOfRecord [.inr (.inr (some pn)), .inr (.inr (rO ad i))] h 0 0 Q := by
  have hi0 : ¬ i = 0 := by omega
  have hpt := H.2.2.2.2.2.2.1
  unfold bhd at hQ
  refine eX3_beginOfRecord ⟨fun q => hi0 (rO_none.mp q), ?_⟩
  have hol := R.otl hi1
  have z1 : rO ad (ot S i) = none ↔ ot S i = 0 := rO_none
  rw [rO_jd hi0, R.oth hi1 hi2, z1, R.nai hi1 hi2]
  refine ⟨R.ty hi1 hi2, fun c => ?_, fun c => ?_⟩
  · rw [if_neg (by omega), if_neg (by omega)] at hQ
    have ru : Q (.inl (some (.inr (.inl (nL (rup (L 4 0) 8)))))) h → jM g mX3_roundUp [.inr (.inl (jl h 65 pn)), .inl 8] h 0 0 (jkl (fun (r3 : Int64) (h4 : jh) => Q (.inl (some (.inr (.inl (r3))))) h4) (fun e h9 => Q (.inr e) h9)) := by
      intro hq
      rw [H.1]
      exact c_roundUp (u := 8) (by unfold isU; omega) hq
    refine ⟨fun c2 => ⟨hpt, ?_⟩, fun c2 => ?_⟩
    · rw [hp, jd_s, fnm_nai R hi1 hi2]
      refine ⟨jsn, R.tg, c_firstOfName R (R.wf.2.2.2.2.2.2.2.2.2.2.1 i) ?_⟩
      rw [jkr_i]
      obtain ⟨f0, f1⟩ := fnm_min hi1 hi2 rfl
      have z2 : rO ad (fnm S (na S i)) = none ↔ fnm S (na S i) = 0 := rO_none
      refine ⟨fun c3 => absurd (z2.mp c3) f0, fun _ => ?_⟩
      rw [R.rO_inj (fnm_le S _) hi2, rO_jd f0]
      refine ⟨fun c4 => ?_, fun c4 => ⟨hpt, ru ?_⟩⟩
      · have hl : lte S i = true := decide_eq_true ⟨c2, c4⟩
        rw [if_pos hl] at hQ
        have hb := (H.2.2.1 _ (by omega) (fnm_le S _) (hf hl)).1
        refine ⟨R.ty (by omega) (fnm_le S _), ?_⟩
        rw [R.sp (by omega) (fnm_le S _), jd_s, hb]
        exact ⟨jsn, R.st (by omega) (fnm_le S _), hQ⟩
      · rw [if_neg (fun q => (of_decide_eq_true q).2 c4)] at hQ
        exact hQ
    · refine ⟨fun _ => ⟨hpt, ru ?_⟩, fun q => absurd rfl q⟩
      rw [if_neg (fun q => (of_decide_eq_true q).1 c2)] at hQ
      exact hQ
  · rw [if_pos c] at hQ
    rw [rO_jd c, R.sp (by omega) (by omega), jd_s, (H.2.2.1 _ (by omega) (by omega) (ho c)).1]
    exact ⟨R.ty (by omega) (by omega), jsn, R.st (by omega) (by omega), hQ⟩
theorem c_beginBelow (R : RTree h S tr rw ad) (H : HL h S pn ad U L) {i : Nat} (hi1 : 1 ≤ i) (hi2 : i ≤ sN S) (hc : ¬ cpa S i = 0) (hcb : L 6 (cpa S i) = 1) (ho : ¬ ot S i = 0 → L 6 (ot S i) = 1) (hQ : Q (.inl (some (.inr (.inl (nL (bhd S L i)))))) h) : jM g mX3_beginBelow [.inr (.inr (rO ad i)), .inr (.inr (rO ad (cpa S i)))] h 0 0 Q := by
  have hi0 : ¬ i = 0 := by omega
  have hol := R.otl hi1
  have hcl := R.cp i (by omega)
  unfold bhd at hQ
  have z1 : rO ad (ot S i) = none ↔ ot S i = 0 := rO_none
  refine eX3_beginBelow ⟨fun q => hi0 (rO_none.mp q), ?_⟩
  rw [rO_jd hi0, R.oth hi1 hi2, z1]
  refine ⟨R.ty hi1 hi2, fun c => ⟨fun q => hc (rO_none.mp q), ?_⟩, fun c => ?_⟩
  · rw [if_neg (by omega), if_pos hc] at hQ
    rw [rO_jd hc, R.sp (by omega) (by omega), jd_s, (H.2.2.1 _ (by omega) (by omega) hcb).2.1]
    exact ⟨R.ty (by omega) (by omega), jsn, R.st (by omega) (by omega), hQ⟩
  · rw [if_pos c] at hQ
    rw [rO_jd c, R.sp (by omega) (by omega), jd_s, (H.2.2.1 _ (by omega) (by omega) (ho c)).1]
    exact ⟨R.ty (by omega) (by omega), jsn, R.st (by omega) (by omega), hQ⟩
theorem lent_step (R : RTree h S tr rw ad) {i : Nat} (hi1 : 1 ≤ i) : lent S i = ((decide (¬ ot S i = 0) || (decide (cpa S i = 0) && lte S i)) || lent S (cpa S i)) := chk_step R.cp hi1
theorem toInt32_nL (n : Nat) : (nL n).toInt32 = nI n := by
  rw [← Int32.toInt_inj, Int64.toInt_toInt32]
  show (Int64.ofNat n).toInt.bmod (2 ^ 32) = (Int32.ofNat n).toInt
  rw [Int64.toInt_ofNat', Int32.toInt_ofNat']
  exact Int.bmod_bmod_of_dvd (by decide)
theorem rup_ge {n u : Nat} (hu : 1 ≤ u) : n ≤ rup n u ∧ rup n u ≤ n + (u - 1) := by
  unfold rup
  have h1 := Nat.div_add_mod (n + u - 1) u
  have h2 := Nat.mod_lt (n + u - 1) (show 0 < u by omega)
  rw [Nat.mul_comm u] at h1
  omega
theorem bhd_le {i : Nat} (hU : isU (alg S U i)) : bhd S L i ≤ plc S U true L i := by
  have := (rup_ge (n := bhd S L i) (u := alg S U i) (by unfold isU at hU; omega)).1
  unfold plc
  rw [if_neg (fun q => by cases q.1)]
  exact this
theorem c_begin (R : RTree h S tr rw ad) (hp : jr h 64 pn = some tr) (H : HL h S pn ad U L) {i : Nat} (hi1 : 1 ≤ i) (hi2 : i ≤ sN S) (hlv : ¬ lv S i = 66 ∧ ¬ lv S i = 88) (hcb : ¬ cpa S i = 0 → L 6 (cpa S i) = 1) (ho : ¬ ot S i = 0 → L 6 (ot S i) = 1) (hf : lte S i = true → L 6 (fnm S (na S i)) = 1) (hQ : ∀ h', HL h' S pn ad U (beg S U true i L) → FL h h' → (∀ c, jr h' 197 c = jr h 197 c) → Q (.inl none) h') : jM g mX3_begin [.inr (.inr (some pn)), .inr (.inr (rO ad i))] h 0 0 Q := by
  have hi0 : ¬ i = 0 := by omega
  have hpt := H.2.2.2.2.2.2.1
  have hcl := R.cp i (by omega)
  have hU : isU (alg S U i) := by
    unfold alg
    split
    · exact Or.inl rfl
    · exact H.2.2.2.2.2.2.2 i hi1 hi2
  have h53 : VX3_begin_53 g pn (rO ad i) (some (ad i + 1)) (nL (bhd S L i)) (some (ad i + 1)) (nL (bhd S L i)) (nI (alg S U i)) h 0 0 Q := by
    refine c_roundUp hU ?_
    rw [jkl_i]
    refine ⟨jsn, R.st hi1 hi2, ?_⟩
    intro h1 e1
    rw [jd_s] at e1
    refine ⟨jsn, by rw [e1]; exact R.st hi1 hi2, ?_⟩
    rw [jd_s]
    have hpl : rup (bhd S L i) (alg S U i) = plc S U true L i := by unfold plc; rw [if_neg (fun q => by cases q.1)]
    rw [hpl] at e1
    have hle := bhd_le (L := L) hU
    rw [show jl h1 192 (ad i + 1) = nL (plc S U true L i) by rw [e1, jl_sl, if_pos ⟨rfl, rfl⟩], nL_sub hle, toInt32_nL]
    intro h2 e2
    refine ⟨fun q => hi0 (rO_none.mp q), ?_⟩
    rw [rO_jd hi0]
    refine ⟨by rw [e2, e1]; exact R.ty hi1 hi2, ?_⟩
    have b2 : ji h2 4 (ad i) = nI (byi S i) := by rw [e2, ji_si, if_neg (by omega), e1, ji_sl]; exact R.bys hi1 hi2
    rw [show jl h2 192 (ad i + 1) = nL (plc S U true L i) by rw [e2, jl_si, e1, jl_sl, if_pos ⟨rfl, rfl⟩], b2, nI_toInt64 (by have := R.byl i; omega), nL_add]
    intro h3 e3
    have F3 : FL h h3 := ((FL.sl e1 (by omega)).trans (FL.si e2 (by omega))).trans (FL.sl e3 (by omega))
    have R3 := R.fl F3
    have k196 : ∀ c, ji h3 196 c = ji h 196 c := fun c => by rw [e3, ji_sl, e2, ji_si, if_neg (by omega), e1, ji_sl]
    have k197 : ∀ c, jr h3 197 c = jr h 197 c := fun c => by rw [e3, jr_sl, e2, jr_si, e1, jr_sl]
    have fin : ∀ v h4, v = jb (lent S i) → h4 = jsi h3 196 (ad i + 1) v → Q (.inl none) h4 := by
      intro v h4 hv e4
      refine hQ h4 ?_ (F3.trans (FL.si e4 (by omega))) (fun c => by rw [e4, jr_si]; exact k197 c)
      obtain ⟨y1, y2, y3, y4, y5, y6, y7, y8⟩ := H
      refine ⟨?_, fun j a b => ?_, fun j a b q => ?_, fun j t a b q e => ?_, fun j a b q => ?_, fun j k t a b c d e f => ?_, ?_, y8⟩
      · rw [e4, jl_si, e3, jl_sl, if_neg (by omega), e2, jl_si, e1, jl_sl, if_neg (by omega)]
        exact y1
      · rw [e4, ji_si, if_neg (by omega), e3, ji_sl, e2, ji_si, if_neg (by omega), e1, ji_sl]
        exact y2 j a b
      · have hj : ad j + 1 = ad i + 1 ↔ j = i := R.adj a b hi1 hi2
        have f0 : jl h4 192 (ad j + 1) = if j = i then nL (plc S U true L i) else jl h 192 (ad j + 1) := by
          rw [e4, jl_si, e3, jl_sl, if_neg (by omega), e2, jl_si, e1, jl_sl]
          simp only [hj, true_and]
        have f1 : jl h4 193 (ad j + 1) = if j = i then nL (plc S U true L i + byi S i) else jl h 193 (ad j + 1) := by
          rw [e4, jl_si, e3, jl_sl, e2, jl_si, e1, jl_sl, if_neg (show ¬ (193 = 192 ∧ _) by omega)]
          simp only [hj, true_and]
        have f3 : ji h4 195 (ad j + 1) = if j = i then nI (plc S U true L i - bhd S L i) else ji h 195 (ad j + 1) := by
          rw [e4, ji_si, if_neg (by omega), e3, ji_sl, e2, ji_si, e1, ji_sl]
          simp only [hj, true_and]
        have f6 : ji h4 196 (ad j + 1) = if j = i then v else ji h 196 (ad j + 1) := by
          rw [e4, ji_si, k196]
          simp only [hj, true_and]
        rw [f0, f1, f3, f6]
        unfold beg at q ⊢
        by_cases w : j = i
        · simp only [w, if_true]
          refine ⟨?_, ?_, ?_, ?_⟩
          · rw [if_pos ⟨trivial, trivial⟩]
          · rw [if_neg (by omega), if_pos ⟨trivial, trivial⟩]
          · rw [if_neg (by omega), if_neg (by omega), if_pos ⟨trivial, trivial⟩]
          · exact hv
        · simp only [w, if_false, and_false] at q ⊢
          exact y3 j a b q
      · rw [e4, jr_si, e3, jr_sl, e2, jr_si, e1, jr_sl] at e
        rw [e4, jl_si, e3, jl_sl, if_neg (by omega), e2, jl_si, e1, jl_sl, if_neg (by omega)]
        exact y4 j t a b q e
      · rw [e4, ji_si, if_neg (by omega), e3, ji_sl, e2, ji_si]
        by_cases w : j = i
        · rw [w] at q; omega
        · rw [if_neg (fun z => w ((R.adj a b hi1 hi2).mp z.2)), e1, ji_sl]
          exact y5 j a b q
      · rw [e4, jr_si, e3, jr_sl, e2, jr_si, e1, jr_sl] at e f
        exact y6 j k t a b c d e f
      · rw [e4, e3, e2, e1]; exact y7
    have ls := lent_step R hi1
    have z1 : rO ad (ot S i) = none ↔ ot S i = 0 := rO_none
    have z2 : rO ad (cpa S i) = none ↔ cpa S i = 0 := rO_none
    rw [R3.oth hi1 hi2, z1, R3.pr hi1 hi2, z2]
    refine ⟨fun c => fun h4 e4 => fin 1 h4 (by rw [ls]; simp [c, jb]) e4, fun c => ⟨fun c2 => ?_, fun c2 => ⟨by rw [e3, e2, e1]; exact hpt, ?_⟩⟩⟩
    · rw [rO_jd c2, R3.sp (by omega) (by omega), jd_s, k196, (H.2.2.1 _ (by omega) (by omega) (hcb c2)).2.2.2, jb_0]
      have lp : lent S i = lent S (cpa S i) := by rw [ls]; simp [c, c2]
      refine ⟨R3.ty (by omega) (by omega), jsn, R3.st (by omega) (by omega), fun c3 => fun h4 e4 => fin 0 h4 (by rw [lp, c3]; rfl) e4, fun c3 => fun h4 e4 => fin 1 h4 (by rw [lp]; simp at c3; rw [c3]; rfl) e4⟩
    · refine c_isLater R3 (by rw [e3, jr_sl, e2, jr_si, e1, jr_sl]; exact hp) (by rw [e3, e2, e1]; exact hpt) hi1 hi2 ?_
      rw [jki_i, jb_0]
      have lp : lent S i = lte S i := by rw [ls]; simp [c, c2, lent, chk_0]
      refine ⟨fun c3 => ⟨R3.st hi1 hi2, fun h4 e4 => fin 0 h4 (by rw [lp, c3]; rfl) e4⟩, fun c3 => ⟨R3.st hi1 hi2, fun h4 e4 => fin 1 h4 (by rw [lp]; simp at c3; rw [c3]; rfl) e4⟩⟩
  have h28 : VX3_begin_28 g pn (rO ad i) (some (ad i + 1)) (nL (bhd S L i)) h 0 0 Q := by
    refine ⟨fun q => hi0 (rO_none.mp q), ?_⟩
    rw [rO_jd hi0, R.syi hi1 hi2, RT.nn R hi1 hi2, jd_s, H.2.1 i hi1 hi2]
    refine ⟨R.ty hi1 hi2, fun c => ⟨jsn, R.st hi1 hi2, ?_⟩, fun c => ⟨fun c2 => ?_, fun c2 => ⟨jsn, R.st hi1 hi2, ?_⟩⟩⟩
    · rw [show U i = alg S U i by unfold alg; rw [if_neg (fun q => c q.1)]]; exact h53
    · rw [show (1 : Int32) = nI (alg S U i) by unfold alg; rw [if_pos ⟨c, c2⟩]; rfl]; exact h53
    · rw [show U i = alg S U i by unfold alg; rw [if_neg (fun q => c2 q.2)]]; exact h53
  have z2 : rO ad (cpa S i) = none ↔ cpa S i = 0 := rO_none
  refine eX3_begin ⟨fun q => hi0 (rO_none.mp q), ?_⟩
  rw [rO_jd hi0, R.pr hi1 hi2, R.sp hi1 hi2, z2]
  refine ⟨R.ty hi1 hi2, fun c => c_beginBelow R H hi1 hi2 c (hcb c) ho ?_, fun c => ⟨hpt, c_beginOfRecord R hp H hi1 hi2 c ho hf ?_⟩⟩
  · rw [jkl_i]; exact h28
  · rw [jkl_i]; exact h28
end Lay2
