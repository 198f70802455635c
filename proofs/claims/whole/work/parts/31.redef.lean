/-! contracts: redefines, checks, depending -/
/-- all, one of lo, lo + 1, .. (n of them) -/
def rall (f : Nat → Bool) : Nat → Nat → Bool
  | _, 0 => true
  | lo, n + 1 => f lo && rall f (lo + 1) n
def rany (f : Nat → Bool) : Nat → Nat → Bool
  | _, 0 => false
  | lo, n + 1 => f lo || rany f (lo + 1) n
theorem rall_iff {f : Nat → Bool} : ∀ n lo, rall f lo n = true ↔ ∀ i, lo ≤ i → i < lo + n → f i = true := by
  intro n
  induction n with
  | zero => intro lo; simp only [rall, true_iff]; intro i h1 h2; omega
  | succ n ih =>
    intro lo
    simp only [rall, Bool.and_eq_true, ih]
    constructor
    · rintro ⟨h0, h⟩ i h1 h2
      by_cases e : i = lo
      · rw [e]; exact h0
      · exact h i (by omega) (by omega)
    · intro h
      exact ⟨h lo (Nat.le_refl _) (by omega), fun i h1 h2 => h i (by omega) (by omega)⟩
theorem rany_iff {f : Nat → Bool} : ∀ n lo, rany f lo n = true ↔ ∃ i, lo ≤ i ∧ i < lo + n ∧ f i = true := by
  intro n
  induction n with
  | zero => intro lo; simp only [rany]; constructor
            · intro q; cases q
            · rintro ⟨i, h1, h2, -⟩; omega
  | succ n ih =>
    intro lo
    simp only [rany, Bool.or_eq_true, ih]
    constructor
    · rintro (h | ⟨i, h1, h2, h3⟩)
      · exact ⟨lo, Nat.le_refl _, by omega, h⟩
      · exact ⟨i, by omega, by omega, h3⟩
    · rintro ⟨i, h1, h2, h3⟩
      by_cases e : i = lo
      · left; rw [← e]; exact h3
      · right; exact ⟨i, by omega, by omega, h3⟩
def abr (S : sg) (i o k : Nat) : Bool := decide (¬ (lv S k = lv S i ∧ cpa S k = cpa S i ∧ ¬ ot S k = o))
def hvl (S : sg) (i k : Nat) : Bool := decide (¬ va S k = 0 ∧ (k = i ∨ bel S k i = true))
/-- whether i may redefine o -/
def okR (S : sg) (i o : Nat) : Bool := decide (o < i ∧ lv S o = lv S i ∧ lv S i ≤ 49 ∧ cpa S o = cpa S i ∧ ot S o = 0 ∧ tb S o = 0 ∧ ot S i = 0 ∧ rd S i = 0 ∧ na S i = 0 ∧ na S o = 0 ∧ rall (abr S i o) (o + 1) (i - (o + 1)) = true ∧ rany (hvl S i) i (sN S + 1 - i) = false)
section Rd1
variable {g : jg} {h : jh} {S : sg} {tr rw : Nat} {ad : Nat → Nat} {Q : jq}
theorem RTree.num (R : RTree h S tr rw ad) {i : Nat} (hi1 : 1 ≤ i) (hi2 : i ≤ sN S) : ji h 0 (ad i) = nI i := (R.i hi1 hi2).2.2.1
theorem RTree.par (R : RTree h S tr rw ad) {i j : Nat} (hi1 : 1 ≤ i) (hi2 : i ≤ sN S) (hj1 : 1 ≤ j) (hj2 : j ≤ sN S) : jr h 5 (ad i) = jr h 5 (ad j) ↔ cpa S i = cpa S j := by
  rw [(R.i hi1 hi2).2.2.2.2.2.2.2.1, (R.i hj1 hj2).2.2.2.2.2.2.2.1]
  exact R.rO_inj (by have := R.cp i (by omega); omega) (by have := R.cp j (by omega); omega)
theorem RTree.lvi (R : RTree h S tr rw ad) {i j : Nat} (hi1 : 1 ≤ i) (hi2 : i ≤ sN S) (hj1 : 1 ≤ j) (hj2 : j ≤ sN S) : ji h 1 (ad i) = ji h 1 (ad j) ↔ lv S i = lv S j := by
  rw [← Int32.toInt_inj, R.lvl hi1 hi2, R.lvl hj1 hj2]
  omega
theorem RTree.oth (R : RTree h S tr rw ad) {i : Nat} (hi1 : 1 ≤ i) (hi2 : i ≤ sN S) : jr h 17 (ad i) = rO ad (ot S i) := (R.i hi1 hi2).2.2.2.2.2.2.2.2.2.2.2.2.2.2.2.2.2.2.1
theorem RTree.otl (R : RTree h S tr rw ad) {i : Nat} (hi1 : 1 ≤ i) : ot S i < i := by
  have := R.wf.2.2.2.2.2.2.2.2.2.2.2.2.1 i
  omega
theorem c_allBetween (R : RTree h S tr rw ad) {i o : Nat} (hi2 : i ≤ sN S) (ho : 1 ≤ o) (hoi : o < i) (hQ : Q (.inl (some (.inl (jb (rall (abr S i o) (o + 1) (i - (o + 1))))))) h) : jM g mX8_allBetweenRedefine [.inr (.inr (some tr)), .inr (.inr (rO ad i)), .inr (.inr (rO ad o))] h 0 0 Q := by
  have hN := R.N
  have hi0 : ¬ i = 0 := by omega
  have ho0 : ¬ o = 0 := by omega
  have loop : ∀ n j, j + n = i → o < j → Q (.inl (some (.inl (jb (rall (abr S i o) j n))))) h → jG g mX8_allBetweenRedefine 7 [(0, .inr (.inr (some tr))), (1, .inr (.inr (rO ad i))), (2, .inr (.inr (rO ad o))), (3, .inl (nI j))] [] h 0 0 Q := by
    intro n
    induction n with
    | zero =>
      intro j e _ hq
      refine vX8_allBetweenRedefine_7 ⟨fun q => hi0 (rO_none.mp q), ?_⟩
      rw [rO_jd hi0, R.num (by omega) hi2]
      exact ⟨(R.i (by omega) hi2).2.1, fun _ => hq, fun c => absurd (nI_le (by omega) (by omega)) c⟩
    | succ n ih =>
      intro j e hj hq
      obtain ⟨w1, w2, w3, w4⟩ := R.row (i := j) (by omega) (by omega)
      have hjN : j ≤ sN S := by omega
      refine vX8_allBetweenRedefine_7 ⟨fun q => hi0 (rO_none.mp q), ?_⟩
      rw [rO_jd hi0, R.num (by omega) hi2, w4, jd_s]
      rw [R.lvi (by omega) hjN (by omega) hi2, R.par (by omega) hjN (by omega) hi2, R.oth (by omega) hjN, R.rO_inj (by have := R.otl (i := j) (by omega); omega) (by omega), nI_1]
      refine ⟨(R.i (by omega) hi2).2.1, fun c => absurd c (nI_ge (by omega) (by omega)), fun _ => ⟨R.tg, w1, w2, w3, jsn, (R.i (by omega) hjN).2.1, fun c => ?_, fun c => ⟨fun c2 => ?_, fun c2 => ⟨fun c3 => ?_, fun c3 => ?_⟩⟩⟩⟩
      · exact ih (j + 1) (by omega) (by omega) (by simpa [rall, abr, c] using hq)
      · exact ih (j + 1) (by omega) (by omega) (by simpa [rall, abr, c2] using hq)
      · exact ih (j + 1) (by omega) (by omega) (by simpa [rall, abr, c3] using hq)
      · simpa [rall, abr, c, c2, c3, jb] using hq
  refine eX8_allBetweenRedefine ⟨fun q => ho0 (rO_none.mp q), ?_⟩
  rw [rO_jd ho0, R.num ho (by omega), nI_1]
  exact ⟨(R.i ho (by omega)).2.1, loop (i - (o + 1)) (o + 1) (by omega) (by omega) hQ⟩
theorem c_hasValues (R : RTree h S tr rw ad) {i : Nat} (hi1 : 1 ≤ i) (hi2 : i ≤ sN S) (hQ : Q (.inl (some (.inl (jb (rany (hvl S i) i (sN S + 1 - i)))))) h) : jM g mX8_hasValues [.inr (.inr (some tr)), .inr (.inr (rO ad i))] h 0 0 Q := by
  have hN := R.N
  have hi0 : ¬ i = 0 := by omega
  have loop : ∀ n j, j + n = sN S + 1 → 1 ≤ j → Q (.inl (some (.inl (jb (rany (hvl S i) j n))))) h → jG g mX8_hasValues 5 [(0, .inr (.inr (some tr))), (1, .inr (.inr (rO ad i))), (2, .inl (nI j))] [] h 0 0 Q := by
    intro n
    induction n with
    | zero =>
      intro j e _ hq
      refine vX8_hasValues_5 ⟨R.tg, ?_⟩
      rw [R.told]
      exact ⟨fun _ => hq, fun c => absurd (nI_lt (by omega) (by omega)) c⟩
    | succ n ih =>
      intro j e hj hq
      have hjN : j ≤ sN S := by omega
      obtain ⟨w1, w2, w3, w4⟩ := R.row (i := j) hj hjN
      have hvj : (ji h 12 (ad j)) = 0 ↔ va S j = 0 := by
        rw [(R.i hj hjN).2.2.2.2.2.2.2.2.2.2.2.2.2.2.1, show (0 : Int32) = nI 0 from rfl, nI_eq (by have := R.wf.2.2.2.2.2.2.2.2.2.2.2.2.2.2.2.2.1 j; omega) (by decide)]
      refine vX8_hasValues_5 ⟨R.tg, ?_⟩
      have hji : (some (ad j) = rO ad i) ↔ j = i := by rw [← rO_some (ad := ad) (show ¬ j = 0 by omega), R.rO_inj hjN hi2]
      rw [R.told, w4, jd_s, hvj, nI_1, hji]
      refine ⟨fun c => absurd c (nI_nlt (by omega) (by omega)), fun _ => ⟨w1, w2, w3, jsn, (R.i hj hjN).2.1, fun c => ?_, fun c => ⟨fun c2 => ?_, fun c2 => ?_⟩⟩⟩
      · exact ih (j + 1) (by omega) (by omega) (by simpa [rany, hvl, c] using hq)
      · subst c2
        simpa [rany, hvl, c, jb] using hq
      · refine c_isBelow R hj hjN hi2 ?_
        rw [jki_i]
        refine ⟨fun c3 => ?_, fun c3 => ?_⟩
        · rw [jb_0] at c3
          exact ih (j + 1) (by omega) (by omega) (by simpa [rany, hvl, c2, c3] using hq)
        · rw [jb_0] at c3
          have c4 : bel S j i = true := by simpa using c3
          simpa [rany, hvl, c, c4, jb] using hq
  refine eX8_hasValues ⟨fun q => hi0 (rO_none.mp q), ?_⟩
  rw [rO_jd hi0, R.num hi1 hi2]
  exact ⟨(R.i hi1 hi2).2.1, loop (sN S + 1 - i) i (by omega) hi1 hQ⟩
theorem RTree.nai (R : RTree h S tr rw ad) {i : Nat} (hi1 : 1 ≤ i) (hi2 : i ≤ sN S) : ji h 19 (ad i) = -1 ↔ na S i = 0 := by
  have wna := R.wf.2.2.2.2.2.2.2.2.2.2.1 i
  rw [← Int32.toInt_inj, (R.i hi1 hi2).2.2.2.2.2.2.2.2.2.2.2.2.2.2.2.2.2.2.2.2, show (1 : Int32) = nI 1 from rfl, pk_sub_toInt (by omega) (by decide), show (-nI 1 : Int32).toInt = -1 from rfl]
  omega
theorem RTree.rdi (R : RTree h S tr rw ad) {i : Nat} (hi1 : 1 ≤ i) (hi2 : i ≤ sN S) : ji h 18 (ad i) = 0 ↔ rd S i = 0 := by
  rw [(R.i hi1 hi2).2.2.2.2.2.2.2.2.2.2.2.2.2.2.2.2.2.2.2.1, show (0 : Int32) = nI 0 from rfl, nI_eq (by have := R.wf.2.2.2.2.2.2.2.2.2.2.2.2.2.2.2.2.2.1 i; omega) (by decide)]
theorem c_mayRedefine (R : RTree h S tr rw ad) {i o : Nat} (hi1 : 1 ≤ i) (hi2 : i ≤ sN S) (ho1 : 1 ≤ o) (ho2 : o ≤ sN S) (hQ : Q (.inl (some (.inl (jb (okR S i o))))) h) : jM g mX8_mayRedefine [.inr (.inr (some tr)), .inr (.inr (rO ad i)), .inr (.inr (rO ad o))] h 0 0 Q := by
  have hN := R.N
  have h1 := jq_t hQ
  have h0 := jq_f hQ
  have hi0 : ¬ i = 0 := by omega
  have ho0 : ¬ o = 0 := by omega
  have c49 : ji h 1 (ad i) ≤ 49 ↔ lv S i ≤ 49 := by
    rw [Int32.le_iff_toInt_le, R.lvl hi1 hi2]
    simp only [Int32.reduceToInt]
    omega
  refine eX8_mayRedefine ⟨fun q => ho0 (rO_none.mp q), ?_⟩
  have z1 : rO ad (ot S o) = none ↔ ot S o = 0 := rO_none
  have z2 : rO ad (ot S i) = none ↔ ot S i = 0 := rO_none
  rw [rO_jd ho0, rO_jd hi0, R.num hi1 hi2, R.num ho1 ho2, nI_leI (by omega) (by omega), R.lvi ho1 ho2 hi1 hi2, c49, R.par ho1 ho2 hi1 hi2, R.oth ho1 ho2, R.oth hi1 hi2, z1, z2, RT.nn R ho1 ho2, R.rdi hi1 hi2, R.nai hi1 hi2, R.nai ho1 ho2]
  refine ⟨(R.i ho1 ho2).2.1, fun q => hi0 (rO_none.mp q), (R.i hi1 hi2).2.1, fun c1 => h0 (decide_eq_false (fun q => by omega)), fun c1 => ⟨fun c2 => h0 (decide_eq_false (fun q => c2 q.2.1)), fun c2 => ⟨fun c3 => ⟨fun c4 => h0 (decide_eq_false (fun q => c4 q.2.2.2.1)), fun c4 => ⟨fun c5 => h0 (decide_eq_false (fun q => c5 q.2.2.2.2.1)), fun c5 => ⟨fun c6 => ⟨fun c7 => h0 (decide_eq_false (fun q => c7 q.2.2.2.2.2.2.1)), fun c7 => ⟨fun c8 => h0 (decide_eq_false (fun q => c8 q.2.2.2.2.2.2.2.1)), fun c8 => ⟨fun c9 => h0 (decide_eq_false (fun q => c9 q.2.2.2.2.2.2.2.2.1)), fun c9 => ⟨fun c10 => ⟨R.tg, ?_⟩, fun c10 => h0 (decide_eq_false (fun q => c10 q.2.2.2.2.2.2.2.2.2.1))⟩⟩⟩⟩, fun c6 => h0 (decide_eq_false (fun q => c6 q.2.2.2.2.2.1))⟩⟩⟩, fun c3 => h0 (decide_eq_false (fun q => c3 q.2.2.1))⟩⟩⟩
  refine c_allBetween R hi2 ho1 (by omega) ?_
  rw [jki_i]
  refine ⟨fun c11 => ?_, fun c11 => ⟨R.tg, ?_⟩⟩
  · rw [jb_0] at c11
    exact h0 (decide_eq_false (fun q => by rw [c11] at q; exact absurd q.2.2.2.2.2.2.2.2.2.2.1 (by decide)))
  · rw [jb_0] at c11
    have c12 : rall (abr S i o) (o + 1) (i - (o + 1)) = true := by simpa using c11
    refine c_hasValues R hi1 hi2 ?_
    rw [jki_i]
    refine ⟨fun c13 => ?_, fun c13 => ?_⟩
    · rw [jb_0] at c13
      exact h0 (decide_eq_false (fun q => c13 q.2.2.2.2.2.2.2.2.2.2.2))
    · rw [jb_0] at c13
      exact h1 (decide_eq_true ⟨by omega, c2, c3, c4, c5, c6, c7, c8, c9, c10, c12, c13⟩)
end Rd1
