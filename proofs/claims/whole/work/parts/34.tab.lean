/-! contracts: mayBeTable, hasRoomFor, tellSynchronised, tellValue, tellPart -/
theorem bm64 {x : Int} (h1 : -2 ^ 63 ≤ x) (h2 : x < 2 ^ 63) : x.bmod (2 ^ 64) = x := Int.bmod_eq_of_le (by omega) (by omega)
theorem bm32 {x : Int} (h1 : -2 ^ 31 ≤ x) (h2 : x < 2 ^ 31) : x.bmod (2 ^ 32) = x := Int.bmod_eq_of_le (by omega) (by omega)
theorem nL_toInt {n : Nat} (h : n < 2 ^ 63) : (nL n).toInt = n := Int64.toInt_ofNat_of_lt h
theorem nL_add (a b : Nat) : nL a + nL b = nL (a + b) := (Int64.ofNat_add a b).symm
theorem nL_mul (a b : Nat) : nL a * nL b = nL (a * b) := (Int64.ofNat_mul a b).symm
def mbt (S : sg) (i k : Nat) : Bool := decide ((k = i ∨ bel S k i = true) → (tabs S k < 3 ∧ ¬ tb S k = 2))
/-- whether i may be a table (d: that depends) -/
def okT (S : sg) (i : Nat) (d : Bool) : Bool := decide ((2 ≤ lv S i ∧ lv S i ≤ 49) ∧ tb S i = 0 ∧ rd S i = 0 ∧ (d = true → tabs S i = 0) ∧ rall (mbt S i) i (sN S + 1 - i) = true)
def room (d : Nat) (v : Int) : Bool := decide (-((10 ^ (min d 18) : Nat) : Int) < v ∧ v < ((10 ^ (min d 18) : Nat) : Int))
section Tab1
variable {g : jg} {h : jh} {S : sg} {tr rw : Nat} {ad : Nat → Nat} {Q : jq}
theorem c_mayBeTable (R : RTree h S tr rw ad) {i : Nat} {d : Bool} (hi1 : 1 ≤ i) (hi2 : i ≤ sN S) (hQ : Q (.inl (some (.inl (jb (okT S i d))))) h) : jM g mX8_mayBeTable [.inr (.inr (some tr)), .inr (.inr (rO ad i)), .inl (jb d)] h 0 0 Q := by
  have hN := R.N
  have h1 := jq_t hQ
  have h0 := jq_f hQ
  have hi0 : ¬ i = 0 := by omega
  have loop : ∀ n j, j + n = sN S + 1 → 1 ≤ j → Q (.inl (some (.inl (jb (rall (mbt S i) j n))))) h → jG g mX8_mayBeTable 41 [(0, .inr (.inr (some tr))), (1, .inr (.inr (rO ad i))), (3, .inl (nI j))] [] h 0 0 Q := by
    intro n
    induction n with
    | zero =>
      intro j e _ hq
      refine vX8_mayBeTable_41 ⟨R.tg, ?_⟩
      rw [R.told]
      exact ⟨fun _ => hq, fun c => absurd (nI_lt (by omega) (by omega)) c⟩
    | succ n ih =>
      intro j e hj hq
      have hjN : j ≤ sN S := by omega
      obtain ⟨w1, w2, w3, w4⟩ := R.row (i := j) hj hjN
      have ht3 : (3 : Int32) ≤ nI (tabs S j) ↔ 3 ≤ tabs S j := by
        rw [show (3 : Int32) = nI 3 from rfl, nI_leI (by decide) (by have := chn_le (f := fun k => decide (tb S k ≠ 0)) R.cp j; unfold tabs; omega)]
      have key : (j = i ∨ bel S j i = true) → VX8_mayBeTable_75 g tr (rO ad i) (nI j) (some (ad j)) h 0 0 Q := by
        intro hc
        refine ⟨jsn, (R.i hj hjN).2.1, ?_⟩
        rw [jd_s]
        refine c_tabs R hj hjN ?_
        rw [jki_i, ht3, nI_1]
        refine ⟨fun c => ?_, fun c => ⟨(R.i hj hjN).2.1, ?_⟩⟩
        · have : mbt S i j = false := decide_eq_false (fun q => by have := q hc; omega)
          simpa [rall, this, jb] using hq
        · refine ⟨fun c2 => ?_, fun c2 => ?_⟩
          · have t0 := (RT.nn R hj hjN).mp c2
            have : mbt S i j = true := decide_eq_true (fun _ => by omega)
            exact ih (j + 1) (by omega) (by omega) (by simpa [rall, this] using hq)
          · obtain ⟨t, ht⟩ : ∃ t, jr h 10 (ad j) = some t := by
              cases hq : jr h 10 (ad j) with
              | none => exact absurd hq c2
              | some t => exact ⟨t, rfl⟩
            obtain ⟨y0, y1, y2, y3, y4, y5⟩ := RT.le R hj hjN ht
            rw [ht, jd_s, y4]
            refine ⟨y1, fun c3 => ?_, fun c3 => ?_⟩
            · have t2 : ¬ tb S j = 2 := fun q => by rw [if_pos q] at c3; cases c3
              have : mbt S i j = true := decide_eq_true (fun _ => by omega)
              exact ih (j + 1) (by omega) (by omega) (by simpa [rall, this] using hq)
            · have t2 : tb S j = 2 := by
                by_cases q : tb S j = 2
                · exact q
                · rw [if_neg q] at c3; exact absurd rfl c3
              have : mbt S i j = false := decide_eq_false (fun q => (q hc).2 t2)
              simpa [rall, this, jb] using hq
      have hji : (some (ad j) = rO ad i) ↔ j = i := by rw [← rO_some (ad := ad) (show ¬ j = 0 by omega), R.rO_inj hjN hi2]
      refine vX8_mayBeTable_41 ⟨R.tg, ?_⟩
      rw [R.told, w4, hji]
      refine ⟨fun c => absurd c (nI_nlt (by omega) (by omega)), fun _ => ⟨w1, w2, w3, fun c => key (Or.inl c), fun c => ⟨jsn, (R.i hj hjN).2.1, ?_⟩⟩⟩
      rw [jd_s]
      refine c_isBelow R hj hjN hi2 ?_
      rw [jki_i, nI_1]
      refine ⟨fun c2 => key (Or.inr ?_), fun c2 => ?_⟩
      · rw [jb_0] at c2; simpa using c2
      · rw [jb_0] at c2
        have : mbt S i j = true := decide_eq_true (fun q => by rcases q with q | q; exact absurd q c; rw [c2] at q; cases q)
        exact ih (j + 1) (by omega) (by omega) (by simpa [rall, this] using hq)
  refine eX8_mayBeTable ⟨fun q => hi0 (rO_none.mp q), ?_⟩
  rw [rO_jd hi0]
  refine ⟨(R.i hi1 hi2).2.1, c_isInner R hi1 hi2 ?_⟩
  rw [jki_i, jb_0, RT.nn R hi1 hi2, R.rdi hi1 hi2, jb_0]
  refine ⟨fun c => h0 (decide_eq_false (fun q => of_decide_eq_false c q.1)), fun c => ⟨(R.i hi1 hi2).2.1, fun c2 => h0 (decide_eq_false (fun q => c2 q.2.1)), fun c2 => ⟨fun c3 => ⟨fun c4 => ?_, fun c4 => ?_⟩, fun c3 => h0 (decide_eq_false (fun q => c3 q.2.2.1))⟩⟩⟩
  · have c' : 2 ≤ lv S i ∧ lv S i ≤ 49 := by simpa using c
    rw [R.num hi1 hi2]
    refine loop (sN S + 1 - i) i (by omega) hi1 ?_
    have : rall (mbt S i) i (sN S + 1 - i) = okT S i d := by
      unfold okT
      cases hq : rall (mbt S i) i (sN S + 1 - i)
      · symm; exact decide_eq_false (fun q => by have := q.2.2.2.2; cases this)
      · symm; exact decide_eq_true ⟨c', c2, c3, (fun q => by rw [c4] at q; cases q), rfl⟩
    rw [this]; exact hQ
  · have c' : 2 ≤ lv S i ∧ lv S i ≤ 49 := by simpa using c
    have c4' : d = true := by simpa using c4
    refine c_tabs R hi1 hi2 ?_
    have ht0 : nI (tabs S i) ≤ (0 : Int32) ↔ tabs S i = 0 := by
      rw [show (0 : Int32) = nI 0 from rfl, nI_leI (by have := chn_le (f := fun k => decide (tb S k ≠ 0)) R.cp i; unfold tabs; omega) (by decide)]
      omega
    rw [jki_i, ht0, R.num hi1 hi2]
    refine ⟨fun c5 => ⟨(R.i hi1 hi2).2.1, loop (sN S + 1 - i) i (by omega) hi1 ?_⟩, fun c5 => h0 (decide_eq_false (fun q => c5 (q.2.2.2.1 c4')))⟩
    have : rall (mbt S i) i (sN S + 1 - i) = okT S i d := by
      unfold okT
      cases hq : rall (mbt S i) i (sN S + 1 - i)
      · symm; exact decide_eq_false (fun q => by have := q.2.2.2.2; cases this)
      · symm; exact decide_eq_true ⟨c', c2, c3, fun _ => c5, rfl⟩
    rw [this]; exact hQ
theorem c_hasRoomFor {d : Nat} {v : Int32} (hd : d ≤ 200) (hQ : Q (.inl (some (.inl (jb (room d v.toInt))))) h) : jM g mX2_hasRoomFor [.inl (nI d), .inl v] h 0 0 Q := by
  have h1 := jq_t hQ
  have h0 := jq_f hQ
  have fin : VX2_hasRoomFor_30 g v (nL (10 ^ (min d 18))) h 0 0 Q := by
    have hb : 10 ^ (min d 18) ≤ 10 ^ 18 := Nat.pow_le_pow_right (by decide) (by omega)
    unfold VX2_hasRoomFor_30
    generalize he : 10 ^ (min d 18) = e at *
    have e2 : (-(nL e)).toInt = -(e : Int) := by rw [Int64.toInt_neg, nL_toInt (by omega), bm64 (by omega) (by omega)]
    simp only [Int64.le_iff_toInt_le, Int32.toInt_toInt64, nL_toInt (show e < 2 ^ 63 by omega), e2]
    refine ⟨fun c => h0 (decide_eq_false ?_), fun c => ⟨fun c2 => h0 (decide_eq_false ?_), fun c2 => h1 (decide_eq_true ?_)⟩⟩ <;> (rw [he]; omega)
  have loop : ∀ n k, k + n = min d 18 → jG g mX2_hasRoomFor 5 [(0, .inl (nI d)), (1, .inl v), (2, .inr (.inl (nL (10 ^ k)))), (4, .inl (nI k))] [] h 0 0 Q := by
    intro n
    induction n with
    | zero =>
      intro k e
      have e' : k = min d 18 := by omega
      refine vX2_hasRoomFor_5 ⟨fun _ => by rw [e']; exact fin, fun c => ⟨fun _ => by rw [e']; exact fin, fun c2 => ?_⟩⟩
      exfalso
      rw [nI_leI (by omega) (by omega)] at c
      rw [show (18 : Int32) = nI 18 from rfl, nI_leI (by decide) (by omega)] at c2
      omega
    | succ n ih =>
      intro k e
      refine vX2_hasRoomFor_5 ⟨fun c => ?_, fun _ => ⟨fun c => ?_, fun _ => ?_⟩⟩
      · exfalso
        rw [nI_leI (by omega) (by omega)] at c
        omega
      · exfalso
        rw [show (18 : Int32) = nI 18 from rfl, nI_leI (by decide) (by omega)] at c
        omega
      · rw [show (10 : Int64) = nL 10 from rfl, nL_mul, nI_1]
        exact ih (k + 1) (by omega)
  exact eX2_hasRoomFor (loop (min d 18) 0 (by omega))
theorem c_tellSync (R : RTree h S tr rw ad) {i : Nat} (hi1 : 1 ≤ i) (hi2 : i ≤ sN S) (hQ0 : ¬ (8 ≤ us S i ∧ us S i ≤ 11 ∧ sy S i = 0) → Q (.inl (some (.inl 0))) h) (hQ1 : (8 ≤ us S i ∧ us S i ≤ 11 ∧ sy S i = 0) → ∀ h', h' = jsi h 11 (ad i) 1 → Q (.inl (some (.inl 1))) h') : jM g mX9_tellSynchronised [.inr (.inr (rO ad i))] h 0 0 Q := by
  have hi0 : ¬ i = 0 := by omega
  have hr := R.i hi1 hi2
  have hu := R.wf.us i
  have hs := R.wf.2.2.2.2.2.2.2.2.2.2.2.2.2.2.2.1 i
  refine eX9_tellSynchronised ⟨fun q => hi0 (rO_none.mp q), ?_⟩
  rw [rO_jd hi0, hr.2.2.2.2.1, hr.2.2.2.2.2.2.2.2.2.2.2.2.2.1]
  simp only [Int32.lt_iff_toInt_lt, ← Int32.toInt_inj, Int32.reduceToInt, nI_toInt (show us S i < 2 ^ 31 by omega), nI_toInt (show sy S i < 2 ^ 31 by omega)]
  refine ⟨hr.2.1, fun c => hQ0 (by omega), fun c => ⟨fun c2 => hQ0 (by omega), fun c2 => ⟨fun c3 => hQ1 (by omega), fun c3 => hQ0 (by omega)⟩⟩⟩
theorem c_tellValue (R : RTree h S tr rw ad) {i : Nat} {v : Int32} (hi1 : 1 ≤ i) (hi2 : i ≤ sN S) (hQ0 : ¬ (okN (us S i) = true ∧ va S i = 0 ∧ aside S i = false ∧ room (dg S i) v.toInt = true) → Q (.inl (some (.inl 0))) h) (hQ1 : (okN (us S i) = true ∧ va S i = 0 ∧ aside S i = false ∧ room (dg S i) v.toInt = true) → ∀ h', h' = jsi (jsi h 12 (ad i) 1) 13 (ad i) v → Q (.inl (some (.inl 1))) h') : jM g mX9_tellValue [.inr (.inr (rO ad i)), .inl v] h 0 0 Q := by
  have hi0 : ¬ i = 0 := by omega
  have hr := R.i hi1 hi2
  have hva := R.wf.2.2.2.2.2.2.2.2.2.2.2.2.2.2.2.2.1 i
  refine eX9_tellValue ⟨fun q => hi0 (rO_none.mp q), ?_⟩
  rw [rO_jd hi0]
  refine ⟨hr.2.1, c_isNumber R hi1 hi2 ?_⟩
  have hv0 : ji h 12 (ad i) = 0 ↔ va S i = 0 := by
    rw [hr.2.2.2.2.2.2.2.2.2.2.2.2.2.2.1, show (0 : Int32) = nI 0 from rfl, nI_eq (by omega) (by decide)]
  rw [jki_i, jb_0, hv0]
  refine ⟨fun c => hQ0 (fun q => by rw [c] at q; cases q.1), fun c => ⟨hr.2.1, fun c2 => hQ0 (fun q => c2 q.2.1), fun c2 => c_aside R hi1 hi2 ?_⟩⟩
  rw [jki_i, jb_0]
  refine ⟨fun c3 => ⟨hr.2.1, ?_⟩, fun c3 => hQ0 (fun q => c3 q.2.2.1)⟩
  rw [hr.2.2.2.2.2.1]
  refine c_hasRoomFor (R.wf.dg i) ?_
  rw [jki_i, jb_0]
  refine ⟨fun c4 => ⟨hr.2.1, ?_⟩, fun c4 => hQ0 (fun q => by rw [c4] at q; cases q.2.2.2)⟩
  intro h1 e1 h2 e2
  exact hQ1 ⟨by simpa using c, c2, c3, by simpa using c4⟩ h2 (by rw [e2, e1])
/-- whether i may rename the part from a to b -/
def okPt (S : sg) (i a b : Nat) : Bool := decide (lv S i = 66 ∧ rn S i = 0 ∧ (2 ≤ lv S a ∧ lv S a ≤ 49) ∧ rc S a = rc S i ∧ (2 ≤ lv S b ∧ lv S b ≤ 49) ∧ rc S b = rc S i ∧ a ≤ b ∧ bel S b a = false)
theorem RTree.rcr (R : RTree h S tr rw ad) {i j : Nat} (hi1 : 1 ≤ i) (hi2 : i ≤ sN S) (hj1 : 1 ≤ j) (hj2 : j ≤ sN S) : jr h 8 (ad i) = jr h 8 (ad j) ↔ rc S i = rc S j := by
  rw [(R.i hi1 hi2).2.2.2.2.2.2.2.2.2.2.2.1, (R.i hj1 hj2).2.2.2.2.2.2.2.2.2.2.2.1]
  exact R.rO_inj (by have := R.wf.2.2.2.2.2.2.2.2.2.2.2.1 i; omega) (by have := R.wf.2.2.2.2.2.2.2.2.2.2.2.1 j; omega)
theorem c_tellPart (R : RTree h S tr rw ad) {i a b : Nat} (hi1 : 1 ≤ i) (hi2 : i ≤ sN S) (ha1 : 1 ≤ a) (ha2 : a ≤ sN S) (hb1 : 1 ≤ b) (hb2 : b ≤ sN S) (hQ0 : okPt S i a b = false → Q (.inl (some (.inl 0))) h) (hQ1 : okPt S i a b = true → ∀ h', h' = jsr (jsr h 15 (ad i) (rO ad a)) 16 (ad i) (rO ad b) → Q (.inl (some (.inl 1))) h') : jM g mX9_tellPart [.inr (.inr (rO ad i)), .inr (.inr (rO ad a)), .inr (.inr (rO ad b))] h 0 0 Q := by
  have hN := R.N
  have hi0 : ¬ i = 0 := by omega
  have ha0 : ¬ a = 0 := by omega
  have hb0 : ¬ b = 0 := by omega
  have hr := R.i hi1 hi2
  have l66 : ji h 1 (ad i) = 66 ↔ lv S i = 66 := by
    rw [← Int32.toInt_inj, R.lvl hi1 hi2]
    simp only [Int32.reduceToInt]
    omega
  have hrn : jr h 15 (ad i) = none ↔ rn S i = 0 := by rw [hr.2.2.2.2.2.2.2.2.2.2.2.2.2.2.2.2.1, rO_none]
  refine eX9_tellPart ⟨fun q => hi0 (rO_none.mp q), ?_⟩
  rw [rO_jd hi0, rO_jd ha0, rO_jd hb0, l66, hrn]
  refine ⟨hr.2.1, fun c => hQ0 (decide_eq_false (fun q => c q.1)), fun c => ⟨fun c2 => hQ0 (decide_eq_false (fun q => c2 q.2.1)), fun c2 => ⟨fun q => absurd (rO_none.mp q) ha0, fun _ => ⟨fun _ => ⟨(R.i ha1 ha2).2.1, c_isInner R ha1 ha2 ?_⟩, fun q => absurd (rO_none.mp q) hb0⟩⟩⟩⟩
  rw [jki_i, jb_0, R.rcr ha1 ha2 hi1 hi2]
  refine ⟨fun c3 => hQ0 (decide_eq_false (fun q => of_decide_eq_false c3 q.2.2.1)), fun c3 => ⟨(R.i ha1 ha2).2.1, hr.2.1, fun c4 => hQ0 (decide_eq_false (fun q => c4 q.2.2.2.1)), fun c4 => ⟨(R.i hb1 hb2).2.1, c_isInner R hb1 hb2 ?_⟩⟩⟩
  rw [jki_i, jb_0, R.rcr hb1 hb2 hi1 hi2, R.num ha1 ha2, R.num hb1 hb2, nI_ltI (by omega) (by omega)]
  refine ⟨fun c5 => hQ0 (decide_eq_false (fun q => of_decide_eq_false c5 q.2.2.2.2.1)), fun c5 => ⟨(R.i hb1 hb2).2.1, hr.2.1, fun c6 => ⟨(R.i ha1 ha2).2.1, fun c7 => hQ0 (decide_eq_false (fun q => by omega)), fun c7 => c_isBelow R hb1 hb2 ha2 ?_⟩, fun c6 => hQ0 (decide_eq_false (fun q => c6 q.2.2.2.2.2.1))⟩⟩
  rw [jki_i, jb_0]
  refine ⟨fun c8 => ⟨hr.2.1, ?_⟩, fun c8 => hQ0 (decide_eq_false (fun q => c8 q.2.2.2.2.2.2.2))⟩
  intro h1 e1 h2 e2
  exact hQ1 (decide_eq_true ⟨c, c2, by simpa using c3, c4, by simpa using c5, c6, by omega, c8⟩) h2 (by rw [e2, e1])
end Tab1
