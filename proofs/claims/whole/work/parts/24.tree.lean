/-! contracts: Tree's reads -/
/-- records: an item's record is an item not behind it -/
def WR (S : sg) : Prop := ∀ i, 1 ≤ i → i ≤ sN S → 1 ≤ rc S i ∧ rc S i ≤ i
def lastNN (S : sg) : Nat → Nat
  | 0 => 0
  | n + 1 => if lv S (n + 1) = 88 then lastNN S n else n + 1
def topRec (S : sg) : Nat := if sN S = 0 then 0 else if lv S (rc S (sN S)) = 1 then rc S (sN S) else 0
def lesser (S : sg) (l : Int) : Nat → Nat
  | 0 => 0
  | n + 1 => if lv S (n + 1) = 66 ∨ lv S (n + 1) = 77 then 0 else if (lv S (n + 1) : Int) < l then n + 1 else lesser S l n
def aro (S : sg) (l : Int) : Nat := if l = 1 then 0 else if l = 66 then topRec S else if l = 77 then 0 else if l = 88 then lastNN S (sN S) else lesser S l (sN S)
theorem lastNN_le (S : sg) : ∀ n, lastNN S n ≤ n := by
  intro n
  induction n with
  | zero => exact Nat.le_refl _
  | succ n ih => unfold lastNN; split <;> omega
theorem lesser_le (S : sg) (l : Int) : ∀ n, lesser S l n ≤ n := by
  intro n
  induction n with
  | zero => exact Nat.le_refl _
  | succ n ih => unfold lesser; split <;> (try split) <;> omega
theorem topRec_le {S : sg} (hR : WR S) : topRec S ≤ sN S := by
  unfold topRec
  split
  · omega
  · split
    · exact (hR _ (by omega) (Nat.le_refl _)).2
    · omega
theorem aro_le {S : sg} (hR : WR S) (l : Int) : aro S l ≤ sN S := by
  unfold aro
  split
  · omega
  · split
    · exact topRec_le hR
    · split
      · omega
      · split
        · exact lastNN_le S _
        · exact lesser_le S l _
theorem jb_01t (b : Bool) : (jb b).toInt = 0 ∨ (jb b).toInt = 1 := by cases b <;> decide
section TreeR
variable {g : jg} {h : jh} {S : sg} {tr rw : Nat} {ad : Nat → Nat} {Q : jq} {k n : Nat}
theorem RTree.row (R : RTree h S tr rw ad) {i : Nat} (hi1 : 1 ≤ i) (hi2 : i ≤ sN S) : (¬ jr h 384 tr = none) ∧ jt h (jd (jr h 384 tr)) = 23 ∧ vp_in (nI i) (jn h (jd (jr h 384 tr))) ∧ jR h (jd (jr h 384 tr)) (nI i).toNatClampNeg = some (ad i) := by
  obtain ⟨r1, r2, r3, r4, r5, -⟩ := id R
  have hN := R.N
  rw [r2]
  refine ⟨jsn, r3, ?_, ?_⟩
  · show vp_in (nI i) (jn h rw)
    rw [r4]
    exact vp_in_nI (by omega) (by decide)
  · show jR h rw _ = _
    rw [nI_clamp (by omega)]
    exact (R.i hi1 hi2).1
theorem RTree.told (R : RTree h S tr rw ad) : ji h 385 tr = nI (sN S) := R.2.2.2.2.1
theorem RTree.tg (R : RTree h S tr rw ad) : jt h tr = 7 := R.1
theorem RTree.lvl (R : RTree h S tr rw ad) {i : Nat} (hi1 : 1 ≤ i) (hi2 : i ≤ sN S) : (ji h 1 (ad i)).toInt = lv S i := by
  rw [(R.i hi1 hi2).2.2.2.1, nI_toInt (by have := R.wf.lv i; omega)]
theorem c_latestNotNaming (R : RTree h S tr rw ad) (hQ : Q (.inl (some (.inr (.inr (rO ad (lastNN S (sN S))))))) h) : jM g mX8_latestNotNaming [.inr (.inr (some tr))] h 0 0 Q := by
  have hN := R.N
  have loop : ∀ i, i ≤ sN S → Q (.inl (some (.inr (.inr (rO ad (lastNN S i)))))) h → jG g mX8_latestNotNaming 5 [(0, .inr (.inr (some tr))), (1, .inl (nI i))] [] h 0 0 Q := by
    intro i
    induction i with
    | zero => intro _ hq; exact vX8_latestNotNaming_5 ⟨fun _ => hq, fun c => absurd (by decide) c⟩
    | succ i ih =>
      intro hi hq
      obtain ⟨w1, w2, w3, w4⟩ := R.row (i := i + 1) (by omega) hi
      have hl := R.lvl (i := i + 1) (by omega) hi
      refine vX8_latestNotNaming_5 ⟨fun c => absurd c ?_, fun _ => ⟨R.tg, w1, w2, w3, ?_⟩⟩
      · rw [show (1 : Int32) = nI 1 from rfl, nI_ltI (by omega) (by decide)]; omega
      · rw [w4]
        refine ⟨jsn, (R.i (i := i + 1) (by omega) hi).2.1, fun c => ?_, fun c => ?_⟩
        · have c' : lv S (i + 1) = 88 := by
            rw [jd_s, ← Int32.toInt_inj, hl] at c
            simp only [Int32.reduceToInt] at c
            omega
          rw [show nI (i + 1) + -1 = nI i from pk_m1 i]
          exact ih (by omega) (by unfold lastNN at hq; rw [if_pos c'] at hq; exact hq)
        · have c' : ¬ lv S (i + 1) = 88 := by
            intro q
            apply c
            rw [jd_s, ← Int32.toInt_inj, hl, q]
            rfl
          unfold lastNN at hq
          rw [if_neg c', rO_some (by omega)] at hq
          exact hq
  refine eX8_latestNotNaming ⟨R.tg, ?_⟩
  rw [R.told]
  exact loop _ (Nat.le_refl _) hQ
theorem c_latestOfLesserLevel (R : RTree h S tr rw ad) {x : Int32} (hQ : Q (.inl (some (.inr (.inr (rO ad (lesser S x.toInt (sN S))))))) h) : jM g mX8_latestOfLesserLevel [.inr (.inr (some tr)), .inl x] h 0 0 Q := by
  have hN := R.N
  have loop : ∀ i, i ≤ sN S → Q (.inl (some (.inr (.inr (rO ad (lesser S x.toInt i)))))) h → jG g mX8_latestOfLesserLevel 5 [(0, .inr (.inr (some tr))), (1, .inl x), (2, .inl (nI i))] [] h 0 0 Q := by
    intro i
    induction i with
    | zero => intro _ hq; exact vX8_latestOfLesserLevel_5 ⟨fun _ => hq, fun c => absurd (by decide) c⟩
    | succ i ih =>
      intro hi hq
      obtain ⟨w1, w2, w3, w4⟩ := R.row (i := i + 1) (by omega) hi
      have hl := R.lvl (i := i + 1) (by omega) hi
      refine vX8_latestOfLesserLevel_5 ⟨fun c => absurd c ?_, fun _ => ⟨R.tg, w1, w2, w3, ?_⟩⟩
      · rw [show (1 : Int32) = nI 1 from rfl, nI_ltI (by omega) (by decide)]; omega
      · rw [w4]
        refine ⟨jsn, (R.i (i := i + 1) (by omega) hi).2.1, ?_⟩
        rw [jd_s]
        simp only [Int32.le_iff_toInt_le, ← Int32.toInt_inj, Int32.reduceToInt, hl]
        unfold lesser at hq
        refine ⟨fun c => ?_, fun c => ⟨fun c2 => ⟨fun c3 => ?_, fun c3 => ?_⟩, fun c2 => ?_⟩⟩
        · rw [if_pos (by omega)] at hq
          exact hq
        · rw [show nI (i + 1) + -1 = nI i from pk_m1 i]
          rw [if_neg (by omega), if_neg (by omega)] at hq
          exact ih (by omega) hq
        · rw [if_neg (by omega), if_pos (by omega), rO_some (by omega)] at hq
          exact hq
        · rw [if_pos (by omega)] at hq
          exact hq
  refine eX8_latestOfLesserLevel ⟨R.tg, ?_⟩
  rw [R.told]
  exact loop _ (Nat.le_refl _) hQ
theorem c_latestTopRecord (R : RTree h S tr rw ad) (W : WR S) (hQ : Q (.inl (some (.inr (.inr (rO ad (topRec S)))))) h) : jM g mX8_latestTopRecord [.inr (.inr (some tr))] h 0 0 Q := by
  have hN := R.N
  refine eX8_latestTopRecord ⟨R.tg, ?_⟩
  rw [R.told]
  refine c_find R ?_
  rw [jkr_i, fnd_nI hN (by omega)]
  unfold topRec at hQ
  by_cases h0 : sN S = 0
  · rw [if_pos h0] at hQ
    rw [if_neg (by omega)]
    exact ⟨fun _ => hQ, fun c => absurd rfl c⟩
  · rw [if_neg h0] at hQ
    rw [if_pos (by omega), rO_some h0]
    have hr := W (sN S) (by omega) (Nat.le_refl _)
    have e := (R.i (i := sN S) (by omega) (Nat.le_refl _)).2.2.2.2.2.2.2.2.2.2.2.1
    have hl := R.lvl (i := rc S (sN S)) hr.1 hr.2
    have t1 := (R.i (i := sN S) (by omega) (Nat.le_refl _)).2.1
    have t2 := (R.i (i := rc S (sN S)) hr.1 hr.2).2.1
    refine ⟨fun c => absurd c jsn, fun _ => ⟨t1, ?_⟩⟩
    rw [jd_s, e, rO_some (show ¬ rc S (sN S) = 0 by omega), jd_s]
    simp only [← Int32.toInt_inj, Int32.reduceToInt, hl]
    refine ⟨jsn, t2, fun c => ?_, fun c => ?_⟩
    · rw [if_pos (by omega), rO_some (by omega)] at hQ
      exact hQ
    · rw [if_neg (by omega)] at hQ
      exact hQ
theorem c_around (R : RTree h S tr rw ad) (W : WR S) {x : Int32} (hQ : Q (.inl (some (.inr (.inr (rO ad (aro S x.toInt)))))) h) : jM g mX8_around [.inr (.inr (some tr)), .inl x] h 0 0 Q := by
  refine eX8_around ?_
  unfold VX8_around_0
  simp only [← Int32.toInt_inj, Int32.reduceToInt]
  unfold aro at hQ
  refine ⟨fun c => ?_, fun c => ⟨R.tg, ?_⟩, fun c => ?_, fun c => ⟨R.tg, ?_⟩, fun c1 c2 c3 c4 => ⟨R.tg, ?_⟩⟩
  · rw [if_pos c] at hQ; exact hQ
  · rw [if_neg (by omega), if_pos c] at hQ
    exact c_latestTopRecord R W hQ
  · rw [if_neg (by omega), if_neg (by omega), if_pos c] at hQ; exact hQ
  · rw [if_neg (by omega), if_neg (by omega), if_neg (by omega), if_pos c] at hQ
    exact c_latestNotNaming R hQ
  · rw [if_neg c1, if_neg c2, if_neg c3, if_neg c4] at hQ
    exact c_latestOfLesserLevel R hQ
/-- whether an item of a level may come -/
def okP (S : sg) (l : Int) : Bool := decide (l = 1 ∨ l = 77 ∨ (¬ aro S l = 0 ∧ ((l = 88 ∧ 3 ≤ us S (aro S l) ∧ us S (aro S l) ≤ 8) ∨ (¬ l = 88 ∧ us S (aro S l) = 0 ∧ (l = 66 ∨ lb S (aro S l) = 0 ∨ (lb S (aro S l) : Int) = l)))))
theorem c_hasPlaceFor (R : RTree h S tr rw ad) (W : WR S) {x : Int32} (hQ : Q (.inl (some (.inl (jb (okP S x.toInt))))) h) : jM g mX8_hasPlaceFor [.inr (.inr (some tr)), .inl x] h 0 0 Q := by
  have h1 := jq_t hQ
  have h0 := jq_f hQ
  refine eX8_hasPlaceFor ?_
  unfold VX8_hasPlaceFor_0
  simp only [← Int32.toInt_inj, Int32.reduceToInt]
  refine ⟨fun c => h1 (decide_eq_true (by omega)), fun c => ⟨fun c2 => ⟨R.tg, ?_⟩, fun c2 => h1 (decide_eq_true (by omega))⟩⟩
  refine c_around R W ?_
  rw [jkr_i]
  have hle := aro_le W x.toInt
  by_cases ha : aro S x.toInt = 0
  · refine ⟨fun c => absurd (rO_none.mpr ha) c, fun _ => h0 (decide_eq_false ?_)⟩
    rintro (q | q | ⟨q, -⟩)
    · exact c q
    · exact c2 q
    · exact q ha
  · have hi1 : 1 ≤ aro S x.toInt := by omega
    have hr := R.i hi1 hle
    have hlb : (ji h 9 (ad (aro S x.toInt))).toInt = lb S (aro S x.toInt) := by rw [hr.2.2.2.2.2.2.2.2.2.2.2.2.1, nI_toInt (by have := R.wf.2.2.2.2.2.2.2.2.2.2.2.2.2.2.2.2.2.2 (aro S x.toInt); omega)]
    have hus : (ji h 2 (ad (aro S x.toInt))).toInt = us S (aro S x.toInt) := by rw [hr.2.2.2.2.1, nI_toInt (by have := R.wf.us (aro S x.toInt); omega)]
    refine ⟨fun _ => ⟨fun c3 => ?_, fun c3 => ?_⟩, fun q => absurd (rO_none.mp q) ha⟩
    · rw [rO_jd ha]
      refine ⟨hr.2.1, ?_⟩
      rw [hlb, hus]
      refine ⟨fun c4 => ⟨fun c5 => h1 (decide_eq_true ?_), fun c5 => ⟨fun c6 => h1 (decide_eq_true ?_), fun c6 => ⟨fun c7 => h0 (decide_eq_false ?_), fun c7 => h1 (decide_eq_true ?_)⟩⟩⟩, fun c4 => h0 (decide_eq_false ?_)⟩
      all_goals omega
    · rw [rO_jd ha]
      refine ⟨hr.2.1, c_isNumber R hi1 hle ?_⟩
      rw [jki_i]
      refine ⟨jb_01t _, ?_⟩
      have e : okN (us S (aro S x.toInt)) = okP S x.toInt := by
        unfold okN okP
        apply decide_eq_decide.mpr
        constructor
        · intro q; exact Or.inr (Or.inr ⟨ha, Or.inl ⟨c3, by omega, by omega⟩⟩)
        · rintro (q | q | ⟨-, ⟨-, q1, q2⟩ | ⟨q, -⟩⟩)
          · exact absurd q c
          · exact absurd q c2
          · omega
          · exact absurd c3 q
      rw [e]
      exact hQ
end TreeR
