/-! contracts: Plan.finish, finishUpTo, gatherUnits -/
/-- what finishing i wants of the state -/
def FOK (S : sg) (U : Nat → Nat) (L : lm) (i : Nat) : Prop := L 6 i = 1 ∧ L 0 i ≤ L 1 i ∧ (¬ cpa S i = 0 → L 6 (cpa S i) = 1) ∧ L 0 i + exf S U L i < 2 ^ 63 ∧ L 4 0 < 2 ^ 63 ∧ (¬ cpa S i = 0 → ot S i = 0 → L 1 (cpa S i) ≤ L 0 i + exf S U L i)
section Lay3
variable {g : jg} {h : jh} {S : sg} {tr rw pn : Nat} {ad : Nat → Nat} {Q : jq} {U : Nat → Nat} {L : lm}
theorem mx_L {a b : Nat} (ha : a < 2 ^ 63) (hb : b < 2 ^ 63) : (if nL a < nL b then nL b else nL a) = nL (max b a) := by
  have e : nL a < nL b ↔ a < b := by rw [Int64.lt_iff_toInt_lt, nL_toInt ha, nL_toInt hb]; omega
  by_cases c : a < b
  · rw [if_pos (e.mpr c)]; congr 1; omega
  · rw [if_neg (fun q => c (e.mp q))]; congr 1; omega
theorem c_finish (R : RTree h S tr rw ad) (H : HL h S pn ad U L) {i : Nat} (hi1 : 1 ≤ i) (hi2 : i ≤ sN S) (ok : FOK S U L i) (hQ : ∀ h', HL h' S pn ad U (fin S U i L) → FL h h' → (∀ c, jr h' 197 c = jr h 197 c) → Q (.inl none) h') : jM g mX3_finish [.inr (.inr (some pn)), .inr (.inr (rO ad i))] h 0 0 Q := by
  obtain ⟨o1, o2, o3, o4, o5, o6⟩ := ok
  have hi0 : ¬ i = 0 := by omega
  have hcl := R.cp i (by omega)
  have h28 : ∀ h1, FL h h1 → (∀ c, jr h1 197 c = jr h 197 c) → (∀ c, ji h1 194 c = ji h 194 c ∧ ji h1 195 c = ji h 195 c ∧ ji h1 196 c = ji h 196 c ∧ jl h1 65 c = jl h 65 c ∧ jl h1 192 c = jl h 192 c ∧ jl h1 193 c = jl h 193 c) → (∀ t, jr h 10 (ad i) = some t → jl h1 324 t = nL (str U L i)) → (∀ t, jr h 10 (ad i) ≠ some t → jl h1 324 t = jl h 324 t) → VX3_finish_28 g pn (rO ad i) h1 0 0 Q := by
    intro h1 F1 k197 kk k1 k2
    have R1 := R.fl F1
    obtain ⟨b1, b2, b3, b4⟩ := H.2.2.1 i hi1 hi2 o1
    have r10 : jr h1 10 = jr h 10 := F1.2.2.2.2.2.2.2.2 10 (by decide)
    have z1 : rO ad (ot S i) = none ↔ ot S i = 0 := rO_none
    have z2 : rO ad (cpa S i) = none ↔ cpa S i = 0 := rO_none
    refine ⟨fun q => hi0 (rO_none.mp q), ?_⟩
    rw [rO_jd hi0, R1.sp hi1 hi2, jd_s, (kk _).2.2.2.2.1, b1]
    refine ⟨R1.ty hi1 hi2, jsn, R1.st hi1 hi2, c_extent R1 hi1 hi2 (by rw [(kk _).2.2.2.2.1]; exact b1) (by rw [(kk _).2.2.2.2.2]; exact b2) o2 (s := str U L i) (fun t ht => k1 t (by rw [← r10]; exact ht)) ?_⟩
    have ee : (if tb S i = 0 then L 1 i - L 0 i else mo S i * str U L i) = exf S U L i := rfl
    rw [jkl_i, ee, R1.pr hi1 hi2, z2, R1.oth hi1 hi2, z1, nL_add]
    have fin' : ∀ h2, FL h1 h2 → (∀ c, jr h2 197 c = jr h1 197 c) → (∀ c, ji h2 194 c = ji h1 194 c ∧ ji h2 195 c = ji h1 195 c ∧ ji h2 196 c = ji h1 196 c ∧ jl h2 192 c = jl h1 192 c ∧ jl h2 324 c = jl h1 324 c) → jl h2 65 pn = nL (fin S U i L 4 0) → (∀ j, 1 ≤ j → j ≤ sN S → L 6 j = 1 → jl h2 193 (ad j + 1) = nL (fin S U i L 1 j)) → Q (.inl none) h2 := by
      intro h2 F2 j197 jj j65 j193
      refine hQ h2 ?_ (F1.trans F2) (fun c => by rw [j197, k197])
      have hr10 : jr h2 10 = jr h 10 := (F1.trans F2).2.2.2.2.2.2.2.2 10 (by decide)
      obtain ⟨y1, y2, y3, y4, y5, y6, y7, y8⟩ := H
      refine ⟨j65, fun j a b => ?_, fun j a b q => ?_, fun j t a b q e => ?_, fun j a b q => ?_, fun j k t a b c d e f => ?_, ?_, y8⟩
      · rw [(jj _).1, (kk _).1]; exact y2 j a b
      · have q' : L 6 j = 1 := by
          have : fin S U i L 6 j = L 6 j := rfl
          rw [← this]; exact q
        obtain ⟨w1, w2, w3, w4⟩ := y3 j a b q'
        exact ⟨by rw [(jj _).2.2.2.1, (kk _).2.2.2.2.1]; exact w1, j193 j a b q', by rw [(jj _).2.1, (kk _).2.1]; exact w3, by rw [(jj _).2.2.1, (kk _).2.2.1]; exact w4⟩
      · rw [(jj _).2.2.2.2]
        rw [hr10] at e
        by_cases w : j = i
        · rw [w] at e ⊢
          rw [k1 t e]
          have ht := (RT.le R hi1 hi2 e).1
          have : fin S U i L 2 i = if tb S i = 0 then L 2 i else str U L i := if_pos ⟨rfl, rfl⟩
          rw [this, if_neg ht]
        · have ne : jr h 10 (ad i) ≠ some t := fun z => w (y6 j i t a b hi1 hi2 e z)
          rw [k2 t ne]
          have q5 : L 5 j = 1 := by
            unfold fin at q
            simpa [w] using q
          have : fin S U i L 2 j = L 2 j := by unfold fin; simp [w]
          rw [this]
          exact y4 j t a b q5 e
      · rw [(jj _).2.1, (kk _).2.1]; exact y5 j a b q
      · rw [hr10] at e f; exact y6 j k t a b c d e f
      · rw [(F1.trans F2).2.1]; exact y7
    refine ⟨R1.ty hi1 hi2, fun c => ⟨fun c2 => ?_, fun c2 => ?_⟩, fun c => ⟨by rw [F1.2.1]; exact H.2.2.2.2.2.2.1, ?_⟩⟩
    · refine fin' h1 FL.rf (fun _ => rfl) (fun _ => ⟨rfl, rfl, rfl, rfl, rfl⟩) ?_ (fun j a b q => ?_)
      · rw [(kk _).2.2.2.1, H.1]
        have : fin S U i L 4 0 = L 4 0 := by unfold fin; simp [c]
        rw [this]
      · rw [(kk _).2.2.2.2.2, (H.2.2.1 j a b q).2.1]
        have : fin S U i L 1 j = L 1 j := by unfold fin; simp [c2]
        rw [this]
    · have hcb := o3 c
      obtain ⟨p1, p2, p3, p4⟩ := H.2.2.1 (cpa S i) (by omega) (by omega) hcb
      rw [rO_jd c, R1.sp (by omega) (by omega), jd_s, (kk _).2.2.2.2.2, p2]
      have hm : ¬ nL (L 0 i + exf S U L i) < nL (L 1 (cpa S i)) := by
        have := o6 c c2
        rw [Int64.lt_iff_toInt_lt, nL_toInt o4, nL_toInt (by omega)]
        omega
      rw [if_neg hm]
      refine ⟨R1.ty (by omega) (by omega), jsn, R1.st (by omega) (by omega), ?_⟩
      intro h2 e2
      refine fin' h2 (FL.sl e2 (by omega)) (fun _ => by rw [e2, jr_sl]) (fun _ => ⟨by rw [e2, ji_sl], by rw [e2, ji_sl], by rw [e2, ji_sl], by rw [e2, jl_sl, if_neg (by omega)], by rw [e2, jl_sl, if_neg (by omega)]⟩) ?_ (fun j a b q => ?_)
      · rw [e2, jl_sl, if_neg (by omega), (kk _).2.2.2.1, H.1]
        have : fin S U i L 4 0 = L 4 0 := by unfold fin; simp [c]
        rw [this]
      · rw [e2, jl_sl]
        by_cases w : j = cpa S i
        · rw [if_pos ⟨rfl, by rw [w]⟩]
          have : fin S U i L 1 j = L 0 i + exf S U L i := by unfold fin; simp [w, c, c2]
          rw [this]
        · rw [if_neg (fun z => w ((R.adj a b (by omega) (by omega)).mp z.2)), (kk _).2.2.2.2.2, (H.2.2.1 j a b q).2.1]
          have : fin S U i L 1 j = L 1 j := by unfold fin; simp [w]
          rw [this]
    · rw [(kk _).2.2.2.1, H.1, mx_L o4 o5]
      intro h2 e2
      refine fin' h2 (FL.sl e2 (by omega)) (fun _ => by rw [e2, jr_sl]) (fun _ => ⟨by rw [e2, ji_sl], by rw [e2, ji_sl], by rw [e2, ji_sl], by rw [e2, jl_sl, if_neg (by omega)], by rw [e2, jl_sl, if_neg (by omega)]⟩) ?_ (fun j a b q => ?_)
      · rw [e2, jl_sl, if_pos ⟨rfl, rfl⟩]
        have : fin S U i L 4 0 = max (L 4 0) (L 0 i + exf S U L i) := by unfold fin; simp [c]
        rw [this]
      · rw [e2, jl_sl, if_neg (by omega), (kk _).2.2.2.2.2, (H.2.2.1 j a b q).2.1]
        have : fin S U i L 1 j = L 1 j := by unfold fin; simp [c]
        rw [this]
  obtain ⟨b1, b2, b3, b4⟩ := H.2.2.1 i hi1 hi2 o1
  refine eX3_finish ⟨fun q => hi0 (rO_none.mp q), ?_⟩
  rw [rO_jd hi0]
  refine ⟨R.ty hi1 hi2, fun c => h28 h FL.rf (fun _ => rfl) (fun _ => ⟨rfl, rfl, rfl, rfl, rfl, rfl⟩) (fun t ht => by rw [ht] at c; cases c) (fun _ _ => rfl), fun c => c_length R hi1 hi2 b1 b2 o2 ?_⟩
  rw [jkl_i, R.sp hi1 hi2, jd_s, H.2.1 i hi1 hi2]
  refine ⟨R.ty hi1 hi2, jsn, R.st hi1 hi2, c_roundUp (H.2.2.2.2.2.2.2 i hi1 hi2) ?_⟩
  rw [jkl_i]
  obtain ⟨t, ht⟩ : ∃ t, jr h 10 (ad i) = some t := by
    cases hq : jr h 10 (ad i) with
    | none => exact absurd hq c
    | some t => exact ⟨t, rfl⟩
  rw [ht, jd_s]
  refine ⟨(RT.le R hi1 hi2 ht).2.1, ?_⟩
  intro h1 e1
  refine h28 h1 (FL.sl e1 (by omega)) (fun _ => by rw [e1, jr_sl]) (fun _ => ⟨by rw [e1, ji_sl], by rw [e1, ji_sl], by rw [e1, ji_sl], by rw [e1, jl_sl, if_neg (by omega)], by rw [e1, jl_sl, if_neg (by omega)], by rw [e1, jl_sl, if_neg (by omega)]⟩) (fun t' ht' => ?_) (fun t' ht' => ?_)
  · rw [ht] at ht'; cases ht'
    rw [e1, jl_sl, if_pos ⟨rfl, rfl⟩]; rfl
  · rw [e1, jl_sl, if_neg (fun q => ht' (by rw [ht, q.2]))]
/-- every finishing on the way is as it should be -/
def FOKs (S : sg) (U : Nat → Nat) (last : Nat) : Nat → Nat → lm → Prop
  | 0, _, _ => True
  | f + 1, x, L => (x = 0 ∨ x = last) ∨ (FOK S U L x ∧ FOKs S U last f (cpa S x) (fin S U x L))
theorem c_finishUpTo (R : RTree h S tr rw ad) (H : HL h S pn ad U L) {o last : Nat} (ho : o ≤ sN S) (hl : last ≤ sN S) (ok : FOKs S U last (o + 1) o L) (hQ : ∀ h', HL h' S pn ad U (fup S U o last L) → FL h h' → (∀ c, jr h' 197 c = jr h 197 c) → Q (.inl none) h') : jM g mX3_finishUpTo [.inr (.inr (some pn)), .inr (.inr (rO ad o)), .inr (.inr (rO ad last))] h 0 0 Q := by
  have loop : ∀ f x (h1 : jh) (L1 : lm), x < f → x ≤ sN S → FL h h1 → (∀ c, jr h1 197 c = jr h 197 c) → HL h1 S pn ad U L1 → FOKs S U last f x L1 → fup S U x last L1 = fup S U o last L → jG g mX3_finishUpTo 2 [(0, .inr (.inr (some pn))), (2, .inr (.inr (rO ad last))), (3, .inr (.inr (rO ad x)))] [] h1 0 0 Q := by
    intro f
    induction f with
    | zero => intro x h1 L1 hx; omega
    | succ f ih =>
      intro x h1 L1 hx hxN F1 k1 H1 ok1 e1
      have R1 := R.fl F1
      have z : rO ad x = none ↔ x = 0 := rO_none
      refine vX3_finishUpTo_2 ⟨fun c => ?_, fun c => ⟨fun c2 => ?_, fun c2 => ⟨H1.2.2.2.2.2.2.1, ?_⟩⟩⟩
      · rw [z] at c
        rw [fup_0 (Or.inl c)] at e1
        exact hQ h1 (e1 ▸ H1) F1 k1
      · rw [R.rO_inj hxN hl] at c2
        rw [fup_0 (Or.inr c2)] at e1
        exact hQ h1 (e1 ▸ H1) F1 k1
      · rw [z] at c
        rw [R.rO_inj hxN hl] at c2
        have hn : ¬ (x = 0 ∨ x = last) := by omega
        obtain ⟨k1', k2'⟩ := ok1.resolve_left hn
        refine c_finish R1 H1 (by omega) hxN k1' (fun h2 H2 F2 k2 => ?_)
        rw [jkv_i]
        have R2 := R1.fl F2
        rw [rO_jd c, R2.pr (by omega) hxN]
        have := R.cp x (by omega)
        exact ⟨R2.ty (by omega) hxN, ih (cpa S x) h2 _ (by omega) (by omega) (F1.trans F2) (fun c => by rw [k2, k1]) H2 k2' (by rw [← fup_step R.cp hn]; exact e1)⟩
  exact eX3_finishUpTo (loop (o + 1) o h L (by omega) ho FL.rf (fun _ => rfl) H ok rfl)
end Lay3
