/-! contracts: Plan.gatherUnits, placeParts, markMoving -/
/-- the table (its item) with which an item's end moves -/
def mvcF (S : sg) (t : Nat) : Nat → Nat → (Nat → Nat) → Nat → Nat
  | 0, _, M => M
  | f + 1, p, M => if ¬ ot S p = 0 ∨ cpa S p = 0 then M else mvcF S t f (cpa S p) (fun j => if j = cpa S p then t else M j)
def mvs (S : sg) (t : Nat) (M : Nat → Nat) : Nat → Nat := if tb S t = 2 then mvcF S t (t + 1) t M else M
def mvU (S : sg) : Nat → Nat → (Nat → Nat) → Nat → Nat
  | _, 0, M => M
  | lo, n + 1, M => mvU S (lo + 1) n (mvs S lo M)
def mvf (S : sg) : Nat → Nat := mvU S 1 (sN S) (fun _ => 0)
section Lay4
variable {g : jg} {h : jh} {S : sg} {tr rw pn : Nat} {ad : Nat → Nat} {Q : jq} {U : Nat → Nat} {L : lm}
theorem mx_I {a b : Nat} (ha : a < 2 ^ 31) (hb : b < 2 ^ 31) : (if nI a < nI b then nI b else nI a) = nI (max a b) := by
  have e : nI a < nI b ↔ a < b := nI_ltI ha hb
  by_cases c : a < b
  · rw [if_pos (e.mpr c)]; congr 1; omega
  · rw [if_neg (fun q => c (e.mp q))]; congr 1; omega
/-- .. only units and moving have changed -/
def FU (h h' : jh) : Prop := FL h h' ∧ jl h' = jl h ∧ ji h' 195 = ji h 195 ∧ ji h' 196 = ji h 196
theorem FU.trans {h h1 h2 : jh} (p : FU h h1) (q : FU h1 h2) : FU h h2 := ⟨p.1.trans q.1, q.2.1.trans p.2.1, q.2.2.1.trans p.2.2.1, q.2.2.2.trans p.2.2.2⟩
theorem FU.si {h h' : jh} {a : Nat} {v : Int32} (e : h' = jsi h 194 a v) : FU h h' := ⟨FL.si e (by omega), by rw [e]; rfl, by rw [e]; rfl, by rw [e]; rfl⟩
theorem FU.sr {h h' : jh} {a : Nat} {v : Option Nat} (e : h' = jsr h 197 a v) : FU h h' := ⟨FL.sr e, by rw [e]; rfl, by rw [e]; rfl, by rw [e]; rfl⟩
theorem FU.rf {h : jh} : FU h h := ⟨FL.rf, rfl, rfl, rfl⟩
theorem gus_le (hU : ∀ i, U i ≤ 400) (hd : ∀ i, dg S i ≤ 200) (i : Nat) : ∀ j, gus S i U j ≤ 400 := by
  intro j
  have h1 := hU j
  have h2 := hU i
  have h3 : byi S i ≤ 400 := byts_le (hd i)
  unfold gus
  split
  · split <;> omega
  · split <;> omega
theorem c_gather (R : RTree h S tr rw ad) (hp : jr h 64 pn = some tr) (hpt : jt h pn = 2) (hQ : ∀ h', FU h h' → (∀ i, 1 ≤ i → i ≤ sN S → ji h' 194 (ad i + 1) = nI (gU S i) ∧ jr h' 197 (ad i + 1) = none) → Q (.inl none) h') : jM g mX3_gatherUnits [.inr (.inr (some pn))] h 0 0 Q := by
  have hN := R.N
  have hd := R.wf.dg
  have loop2 : ∀ i U h1, i ≤ sN S → (∀ j, U j ≤ 400) → FU h h1 → (∀ j, 1 ≤ j → j ≤ sN S → ji h1 194 (ad j + 1) = nI (U j) ∧ jr h1 197 (ad j + 1) = none) → guF S i U = gU S → jG g mX3_gatherUnits 50 [(0, .inr (.inr (some pn))), (1, .inl (nI i))] [] h1 0 0 Q := by
    intro i
    induction i with
    | zero =>
      intro U h1 _ _ F1 k1 e1
      refine vX3_gatherUnits_50 ⟨fun _ => hQ h1 F1 ?_, fun c => absurd (by decide) c⟩
      intro j a b
      rw [← e1]; exact k1 j a b
    | succ i ih =>
      intro U h1 hi hU F1 k1 e1
      have R1 := R.fl F1.1
      obtain ⟨w1, w2, w3, w4⟩ := R1.row (i := i + 1) (by omega) hi
      have hp1 : jr h1 64 pn = some tr := by rw [F1.1.2.2.2.2.2.2.2.2 64 (by decide)]; exact hp
      have ht1 : jt h1 pn = 2 := by rw [F1.1.2.1]; exact hpt
      have hcl := R.cp (i + 1) (by omega)
      have hby := R.byl (i + 1)
      have ez : rO ad (cpa S (i + 1)) = none ↔ cpa S (i + 1) = 0 := rO_none
      have key : ∀ h2 V, FU h1 h2 → V = (fun j => if j = i + 1 ∧ ¬ sy S (i + 1) = 0 then byi S (i + 1) else U j) → (∀ j, 1 ≤ j → j ≤ sN S → ji h2 194 (ad j + 1) = nI (V j) ∧ jr h2 197 (ad j + 1) = none) → VX3_gatherUnits_83 g pn (nI (i + 1)) (some (ad (i + 1))) h2 0 0 Q := by
        intro h2 V F2 hV k2
        have R2 := R1.fl F2.1
        have hVl : ∀ j, V j ≤ 400 := fun j => by have := hU j; rw [hV]; show (if _ then _ else _) ≤ 400; split <;> omega
        refine ⟨jsn, R2.ty (by omega) hi, ?_⟩
        rw [jd_s, R2.pr (by omega) hi, ez, R2.sp (by omega) hi, jd_s, pk_m1]
        refine ⟨fun c => ?_, fun c => ?_⟩
        · refine ih (gus S (i + 1) U) h2 (by omega) (gus_le hU hd _) (F1.trans F2) (fun j a b => ?_) e1
          have := k2 j a b
          rw [hV] at this
          have eg : gus S (i + 1) U j = (if j = i + 1 ∧ ¬ sy S (i + 1) = 0 then byi S (i + 1) else U j) := by unfold gus; rw [if_neg (fun q => q.2 c)]
          rw [eg]; exact this
        · rw [rO_jd c, R2.sp (by omega) (by omega), jd_s, (k2 _ (by omega) (by omega)).1, (k2 _ (by omega) hi).1, mx_I (by have := hVl (cpa S (i + 1)); omega) (by have := hVl (i + 1); omega)]
          refine ⟨R2.ty (by omega) (by omega), jsn, R2.st (by omega) (by omega), jsn, R2.st (by omega) hi, ?_⟩
          intro h3 e3
          refine ih (gus S (i + 1) U) h3 (by omega) (gus_le hU hd _) ((F1.trans F2).trans (FU.si e3)) (fun j a b => ⟨?_, by rw [e3, jr_si]; exact (k2 j a b).2⟩) e1
          rw [e3, ji_si]
          by_cases w : j = cpa S (i + 1)
          · rw [if_pos ⟨rfl, by rw [w]⟩]
            have eg : gus S (i + 1) U j = max (U j) (if sy S (i + 1) = 0 then U (i + 1) else byi S (i + 1)) := by unfold gus; rw [if_pos ⟨w, c⟩]
            rw [eg, w]
            congr 1
            have v1 : V (cpa S (i + 1)) = U (cpa S (i + 1)) := by rw [hV]; show (if _ then _ else _) = _; rw [if_neg (by omega)]
            have v2 : V (i + 1) = (if sy S (i + 1) = 0 then U (i + 1) else byi S (i + 1)) := by
              rw [hV]; show (if _ then _ else _) = _
              by_cases q : sy S (i + 1) = 0
              · rw [if_neg (fun z => z.2 q), if_pos q]
              · rw [if_pos ⟨rfl, q⟩, if_neg q]
            rw [v1, v2]
          · rw [if_neg (fun z => w ((R.adj a b (by omega) (by omega)).mp z.2)), (k2 j a b).1]
            congr 1
            have eg : gus S (i + 1) U j = (if j = i + 1 ∧ ¬ sy S (i + 1) = 0 then byi S (i + 1) else U j) := by unfold gus; rw [if_neg (fun q => w q.1)]
            rw [eg, hV]
      refine vX3_gatherUnits_50 ⟨fun c => absurd c ?_, fun _ => ⟨ht1, ?_⟩⟩
      · rw [show (1 : Int32) = nI 1 from rfl, nI_ltI (by omega) (by decide)]; omega
      · rw [hp1, jd_s]
        refine ⟨jsn, R1.tg, w1, w2, w3, ?_⟩
        rw [w4, jd_s, R1.syi (by omega) hi, R1.sp (by omega) hi, jd_s, R1.bys (by omega) hi]
        refine ⟨jsn, R1.ty (by omega) hi, fun c => ?_, fun c => ⟨jsn, R1.st (by omega) hi, ?_⟩⟩
        · refine key h1 _ FU.rf rfl (fun j a b => ?_)
          show ji h1 194 (ad j + 1) = nI (if _ then _ else _) ∧ _
          rw [if_neg (fun q => q.2 c)]
          exact k1 j a b
        · intro h2 e2
          refine key h2 _ (FU.si e2) rfl (fun j a b => ⟨?_, by rw [e2, jr_si]; exact (k1 j a b).2⟩)
          rw [e2, ji_si]
          show _ = nI (if _ then _ else _)
          by_cases w : j = i + 1
          · rw [if_pos ⟨rfl, by rw [w]⟩, if_pos ⟨w, c⟩]
          · rw [if_neg (fun z => w ((R.adj a b (by omega) hi).mp z.2)), if_neg (fun z => w z.1)]
            exact (k1 j a b).1
  have loop1 : ∀ i h1, i ≤ sN S → FU h h1 → (∀ j, i < j → j ≤ sN S → ji h1 194 (ad j + 1) = nI 1 ∧ jr h1 197 (ad j + 1) = none) → jG g mX3_gatherUnits 8 [(0, .inr (.inr (some pn))), (1, .inl (nI i))] [] h1 0 0 Q := by
    intro i
    induction i with
    | zero =>
      intro h1 _ F1 k1
      have R1 := R.fl F1.1
      have hp1 : jr h1 64 pn = some tr := by rw [F1.1.2.2.2.2.2.2.2.2 64 (by decide)]; exact hp
      have ht1 : jt h1 pn = 2 := by rw [F1.1.2.1]; exact hpt
      refine vX3_gatherUnits_8 ⟨fun _ => ⟨ht1, ?_⟩, fun c => absurd (by decide) c⟩
      rw [hp1, jd_s, R1.told]
      exact ⟨jsn, R1.tg, loop2 (sN S) (fun _ => 1) h1 (Nat.le_refl _) (fun _ => by decide) F1 (fun j a b => k1 j a b) rfl⟩
    | succ i ih =>
      intro h1 hi F1 k1
      have R1 := R.fl F1.1
      obtain ⟨w1, w2, w3, w4⟩ := R1.row (i := i + 1) (by omega) hi
      have hp1 : jr h1 64 pn = some tr := by rw [F1.1.2.2.2.2.2.2.2.2 64 (by decide)]; exact hp
      have ht1 : jt h1 pn = 2 := by rw [F1.1.2.1]; exact hpt
      refine vX3_gatherUnits_8 ⟨fun c => absurd c ?_, fun _ => ⟨ht1, ?_⟩⟩
      · rw [show (1 : Int32) = nI 1 from rfl, nI_ltI (by omega) (by decide)]; omega
      · rw [hp1, jd_s]
        refine ⟨jsn, R1.tg, w1, w2, w3, ?_⟩
        rw [w4, jd_s, R1.sp (by omega) hi, jd_s, pk_m1]
        refine ⟨jsn, R1.ty (by omega) hi, jsn, R1.st (by omega) hi, ?_⟩
        intro h2 e2 h3 e3
        refine ih h3 (by omega) ((F1.trans (FU.si e2)).trans (FU.sr e3)) (fun j a b => ?_)
        rw [e3, ji_sr, jr_sr, e2, ji_si, jr_si]
        by_cases w : j = i + 1
        · rw [if_pos ⟨rfl, by rw [w]⟩, if_pos ⟨rfl, by rw [w]⟩]; exact ⟨rfl, rfl⟩
        · rw [if_neg (fun z => w ((R.adj (by omega) b (by omega) hi).mp z.2)), if_neg (fun z => w ((R.adj (by omega) b (by omega) hi).mp z.2))]
          exact k1 j (by omega) b
  refine eX3_gatherUnits ⟨hpt, ?_⟩
  rw [hp, jd_s, R.told]
  exact ⟨jsn, R.tg, loop1 (sN S) h (Nat.le_refl _) FU.rf (fun j a b => by omega)⟩
theorem c_markMoving (R : RTree h S tr rw ad) (hp : jr h 64 pn = some tr) (hpt : jt h pn = 2) (h0 : ∀ i, 1 ≤ i → i ≤ sN S → jr h 197 (ad i + 1) = none) (hQ : ∀ h', FU h h' → ji h' 194 = ji h 194 → (∀ i, 1 ≤ i → i ≤ sN S → mvf S i ≤ sN S ∧ jr h' 197 (ad i + 1) = if mvf S i = 0 then none else jr h 10 (ad (mvf S i))) → Q (.inl none) h') : jM g mX3_markMoving [.inr (.inr (some pn))] h 0 0 Q := by
  have hN := R.N
  have loop : ∀ n j h1 M, j + n = sN S + 1 → 1 ≤ j → FU h h1 → ji h1 194 = ji h 194 → (∀ i, 1 ≤ i → i ≤ sN S → M i ≤ sN S ∧ jr h1 197 (ad i + 1) = if M i = 0 then none else jr h 10 (ad (M i))) → mvU S j n M = mvf S → jG g mX3_markMoving 2 [(0, .inr (.inr (some pn))), (1, .inl (nI j))] [] h1 0 0 Q := by
    intro n
    induction n with
    | zero =>
      intro j h1 M e _ F1 k4 k1 e1
      have R1 := R.fl F1.1
      have hp1 : jr h1 64 pn = some tr := by rw [F1.1.2.2.2.2.2.2.2.2 64 (by decide)]; exact hp
      have ht1 : jt h1 pn = 2 := by rw [F1.1.2.1]; exact hpt
      refine vX3_markMoving_2 ⟨ht1, ?_⟩
      rw [hp1, jd_s, R1.told]
      refine ⟨jsn, R1.tg, fun _ => hQ h1 F1 k4 ?_, fun c => absurd (nI_lt (by omega) (by omega)) c⟩
      rw [← e1]; exact k1
    | succ n ih =>
      intro j h1 M e hj F1 k4 k1 e1
      have hjN : j ≤ sN S := by omega
      have R1 := R.fl F1.1
      obtain ⟨w1, w2, w3, w4⟩ := R1.row (i := j) hj hjN
      have hp1 : jr h1 64 pn = some tr := by rw [F1.1.2.2.2.2.2.2.2.2 64 (by decide)]; exact hp
      have ht1 : jt h1 pn = 2 := by rw [F1.1.2.1]; exact hpt
      have climb : ∀ f p h2 M2, p < f → 1 ≤ p → p ≤ sN S → FU h h2 → ji h2 194 = ji h 194 → (∀ i, 1 ≤ i → i ≤ sN S → M2 i ≤ sN S ∧ jr h2 197 (ad i + 1) = if M2 i = 0 then none else jr h 10 (ad (M2 i))) → mvU S (j + 1) n (mvcF S j f p M2) = mvf S → jG g mX3_markMoving 42 [(0, .inr (.inr (some pn))), (1, .inl (nI j)), (2, .inr (.inr (some (ad j)))), (3, .inr (.inr (some (ad p))))] [] h2 0 0 Q := by
        intro f
        induction f with
        | zero => intro p h2 M2 hp; omega
        | succ f ihf =>
          intro p h2 M2 hpf hp1 hp2 F2 k42 k2 e2
          have R2 := R.fl F2.1
          have hcl := R.cp p (by omega)
          have z1 : rO ad (ot S p) = none ↔ ot S p = 0 := rO_none
          have z2 : rO ad (cpa S p) = none ↔ cpa S p = 0 := rO_none
          unfold mvcF at e2
          refine vX3_markMoving_42 ⟨jsn, R2.ty hp1 hp2, ?_⟩
          rw [jd_s, R2.oth hp1 hp2, z1, R2.pr hp1 hp2, z2, nI_1]
          refine ⟨fun c => ?_, fun c => ⟨fun c2 => ?_, fun c2 => ?_⟩⟩
          · rw [if_pos (Or.inl c)] at e2
            exact ih (j + 1) h2 M2 (by omega) (by omega) F2 k42 k2 e2
          · rw [if_pos (Or.inr c2)] at e2
            exact ih (j + 1) h2 M2 (by omega) (by omega) F2 k42 k2 e2
          · rw [if_neg (by omega)] at e2
            rw [rO_jd c2, jd_s, R2.sp (by omega) (by omega), jd_s]
            refine ⟨R2.ty (by omega) (by omega), jsn, R2.ty hj hjN, jsn, R2.st (by omega) (by omega), ?_⟩
            intro h3 e3
            have F3 : FU h h3 := F2.trans (FU.sr e3)
            have R3 := R.fl F3.1
            rw [R3.pr hp1 hp2, rO_some c2]
            refine ihf (cpa S p) h3 _ (by omega) (by omega) (by omega) F3 (by rw [e3, ← k42]; rfl) (fun i a b => ?_) e2
            rw [e3, jr_sr]
            show (if _ then _ else _) ≤ _ ∧ _ = if (if _ then _ else _) = 0 then none else jr h 10 (ad (if _ then _ else _))
            by_cases w : i = cpa S p
            · rw [if_pos w, if_pos ⟨rfl, by rw [w]⟩, if_neg (by omega)]
              refine ⟨hjN, ?_⟩
              rw [F2.1.2.2.2.2.2.2.2.2 10 (by decide)]
            · rw [if_neg w, if_neg (fun z => w ((R.adj a b (by omega) (by omega)).mp z.2))]
              exact k2 i a b
      refine vX3_markMoving_2 ⟨ht1, ?_⟩
      rw [hp1, jd_s, R1.told]
      refine ⟨jsn, R1.tg, fun c => absurd c (nI_nlt (by omega) (by omega)), fun _ => ⟨w1, w2, w3, ?_⟩⟩
      rw [w4, jd_s, nI_1]
      have go : mvs S j M = M → jG g mX3_markMoving 2 [(0, .inr (.inr (some pn))), (1, .inl (nI (j + 1)))] [] h1 0 0 Q := fun em => ih (j + 1) h1 M (by omega) (by omega) F1 k4 k1 (by rw [← em]; exact e1)
      refine ⟨jsn, R1.ty hj hjN, fun c => go ?_, fun c => ?_⟩
      · have := (RT.nn R1 hj hjN).mp c
        unfold mvs; rw [if_neg (by omega)]
      · obtain ⟨t, ht⟩ : ∃ t, jr h1 10 (ad j) = some t := by
          cases hq : jr h1 10 (ad j) with
          | none => exact absurd hq c
          | some t => exact ⟨t, rfl⟩
        obtain ⟨y0, y1, y2, y3, y4, y5⟩ := RT.le R1 hj hjN ht
        rw [ht, jd_s, y4]
        refine ⟨y1, fun c2 => go ?_, fun c2 => ?_⟩
        · have t2 : ¬ tb S j = 2 := fun q => by rw [if_pos q] at c2; cases c2
          unfold mvs; rw [if_neg t2]
        · have t2 : tb S j = 2 := by
            by_cases q : tb S j = 2
            · exact q
            · rw [if_neg q] at c2; exact absurd rfl c2
          refine climb (j + 1) j h1 M (by omega) hj hjN F1 k4 k1 ?_
          have em : mvs S j M = mvcF S j (j + 1) j M := by unfold mvs; rw [if_pos t2]
          rw [← em]; exact e1
  exact eX3_markMoving (loop (sN S) 1 h (fun _ => 0) (by omega) (by omega) FU.rf rfl (fun i a b => ⟨by omega, by rw [h0 i a b]; rfl⟩) rfl)
end Lay4
