/-! contracts: Plan.firstWrong -/
section Lay6
variable {g : jg} {h : jh} {S : sg} {tr rw pn : Nat} {ad : Nat → Nat} {Q : jq}
theorem nL_eq {a b : Nat} (ha : a < 2 ^ 63) (hb : b < 2 ^ 63) : nL a = nL b ↔ a = b := by
  rw [← Int64.toInt_inj, nL_toInt ha, nL_toInt hb]; omega
theorem nL_lt {a b : Nat} (ha : a < 2 ^ 63) (hb : b < 2 ^ 63) : nL a < nL b ↔ a < b := by
  rw [Int64.lt_iff_toInt_lt, nL_toInt ha, nL_toInt hb]; omega
theorem c_rightPart (R : RTree h S tr rw ad) (hp : jr h 64 pn = some tr) (hpt : jt h pn = 2) {a c : Nat} (ha : a ≤ sN S) (hc : c ≤ sN S) (hQ : Q (.inl (some (.inl (jb (rpt S a c))))) h) : jM g mX3_isRightPart [.inr (.inr (some pn)), .inr (.inr (rO ad a)), .inr (.inr (rO ad c))] h 0 0 Q := by
  have h1 := jq_t hQ
  have h0 := jq_f hQ
  have hN := R.N
  have z1 : rO ad a = none ↔ a = 0 := rO_none
  have z2 : rO ad c = none ↔ c = 0 := rO_none
  refine eX3_isRightPart ⟨fun q => h0 (decide_eq_false (fun z => z.1 (z1.mp q))), fun q => ⟨fun q2 => ?_, fun q2 => h0 (decide_eq_false (fun z => z.2.1 (z2.mp q2)))⟩⟩
  rw [z1] at q
  rw [z2] at q2
  rw [rO_jd q, rO_jd q2]
  refine ⟨R.ty (by omega) ha, c_aside R (by omega) ha ?_⟩
  rw [jki_i, jb_0]
  refine ⟨fun q3 => h0 (decide_eq_false (fun z => q3 z.2.2.1)), fun q3 => ⟨R.ty (by omega) hc, c_aside R (by omega) hc ?_⟩⟩
  rw [jki_i, jb_0]
  refine ⟨fun q4 => ⟨R.ty (by omega) ha, ?_⟩, fun q4 => h0 (decide_eq_false (fun z => q4 z.2.2.2.1))⟩
  rw [R.num (by omega) ha]
  have loop : ∀ n j, j + n = sN S + 1 → 1 ≤ j → (rall (rptf S c) j n = rall (rptf S c) a (sN S + 1 - a)) → jG g mX3_isRightPart 31 [(0, .inr (.inr (some pn))), (2, .inr (.inr (rO ad c))), (3, .inl (nI j))] [] h 0 0 Q := by
    intro n
    induction n with
    | zero =>
      intro j e _ er
      refine vX3_isRightPart_31 ⟨hpt, ?_⟩
      rw [hp, jd_s, R.told]
      refine ⟨jsn, R.tg, fun _ => h1 (decide_eq_true ⟨q, q2, q3, q4, er.symm⟩), fun z => absurd (nI_lt (by omega) (by omega)) z⟩
    | succ n ih =>
      intro j e hj er
      have hjN : j ≤ sN S := by omega
      obtain ⟨w1, w2, w3, w4⟩ := R.row (i := j) hj hjN
      have t3 := chn_le (f := fun k => decide (tb S k ≠ 0)) R.cp j
      have t3' : tabs S j ≤ j := t3
      refine vX3_isRightPart_31 ⟨hpt, ?_⟩
      have le : nI j ≤ nI c ↔ j ≤ c := by rw [Int32.le_iff_toInt_le, nI_toInt (by omega), nI_toInt (by omega)]; omega
      have l0 : nI (tabs S j) ≤ 0 ↔ tabs S j = 0 := by rw [Int32.le_iff_toInt_le, nI_toInt (by omega), show (0 : Int32).toInt = 0 from rfl]; omega
      rw [hp, jd_s, R.told, w4, jd_s, rO_jd q2, R.num (by omega) hc, le, nI_1]
      have go : rptf S c j = true → jG g mX3_isRightPart 31 [(0, .inr (.inr (some pn))), (2, .inr (.inr (rO ad c))), (3, .inl (nI (j + 1)))] [] h 0 0 Q := fun ht => by
        refine ih (j + 1) (by omega) (by omega) ?_
        rw [← er]
        show _ = (rptf S c j && _)
        rw [ht]; rfl
      have bad : rptf S c j = false → Q (.inl (some (.inl 0))) h := fun hf => by
        refine h0 (decide_eq_false (fun z => ?_))
        have := z.2.2.2.2
        rw [← er] at this
        have e2 : rall (rptf S c) j (n + 1) = (rptf S c j && rall (rptf S c) (j + 1) n) := rfl
        rw [e2, hf] at this
        cases this
      refine ⟨jsn, R.tg, fun z => absurd z (nI_nlt (by omega) (by omega)), fun _ => ⟨w1, w2, w3, fun z => q2 (rO_none.mp z), R.ty (by omega) hc, fun z => ⟨jsn, R.ty hj hjN, c_tabs R hj hjN ?_⟩, fun z => ⟨jsn, R.ty hj hjN, c_isBelow R hj hjN hc ?_⟩⟩⟩
      · rw [jki_i, l0]
        exact ⟨fun y => go (decide_eq_true (fun _ => y)), fun y => bad (decide_eq_false (fun x => y (x (Or.inl z))))⟩
      · rw [jki_i, jb_0]
        refine ⟨fun y => go (decide_eq_true (fun x => ?_)), fun y => ⟨R.ty hj hjN, c_tabs R hj hjN ?_⟩⟩
        · rcases x with x | x
          · exact absurd x z
          · rw [y] at x; cases x
        · rw [jki_i, l0]
          have y' : bel S j c = true := by simpa using y
          exact ⟨fun x => go (decide_eq_true (fun _ => x)), fun x => bad (decide_eq_false (fun v => x (v (Or.inr y'))))⟩
  exact loop (sN S + 1 - a) a (by omega) (by omega) rfl
theorem c_lastOfRecord (R : RTree h S tr rw ad) (hp : jr h 64 pn = some tr) (hpt : jt h pn = 2) (WLh : WL S) {i : Nat} (hi1 : 1 ≤ i) (hi2 : i ≤ sN S) (hQ : Q (.inl (some (.inl (jb (lst S i))))) h) : jM g mX3_isLastOfRecord [.inr (.inr (some pn)), .inr (.inr (rO ad i))] h 0 0 Q := by
  have h1 := jq_t hQ
  have h0 := jq_f hQ
  have hN := R.N
  have hi0 : ¬ i = 0 := by omega
  refine eX3_isLastOfRecord ⟨fun q => hi0 (rO_none.mp q), ?_⟩
  rw [rO_jd hi0, R.num hi1 hi2, nI_1]
  refine ⟨R.ty hi1 hi2, ?_⟩
  have loop : ∀ n j, j + n = sN S + 1 → 1 ≤ j → rall (lstf S i) j n = lst S i → jG g mX3_isLastOfRecord 7 [(0, .inr (.inr (some pn))), (1, .inr (.inr (rO ad i))), (2, .inl (nI j))] [] h 0 0 Q := by
    intro n
    induction n with
    | zero =>
      intro j e _ er
      refine vX3_isLastOfRecord_7 ⟨hpt, ?_⟩
      rw [hp, jd_s, R.told]
      exact ⟨jsn, R.tg, fun _ => h1 er.symm, fun z => absurd (nI_lt (by omega) (by omega)) z⟩
    | succ n ih =>
      intro j e hj er
      have hjN : j ≤ sN S := by omega
      obtain ⟨w1, w2, w3, w4⟩ := R.row (i := j) hj hjN
      refine vX3_isLastOfRecord_7 ⟨hpt, ?_⟩
      rw [hp, jd_s, R.told, w4, jd_s, rO_jd hi0, R.rcr hj hjN hi1 hi2, nI_1]
      have go : lstf S i j = true → jG g mX3_isLastOfRecord 7 [(0, .inr (.inr (some pn))), (1, .inr (.inr (rO ad i))), (2, .inl (nI (j + 1)))] [] h 0 0 Q := fun ht => by
        refine ih (j + 1) (by omega) (by omega) ?_
        rw [← er]
        show _ = (lstf S i j && _)
        rw [ht]; rfl
      have bad : lstf S i j = false → Q (.inl (some (.inl 0))) h := fun hf => by
        refine h0 ?_
        rw [← er]
        show (lstf S i j && _) = false
        rw [hf]; rfl
      refine ⟨jsn, R.tg, fun z => absurd z (nI_nlt (by omega) (by omega)), fun _ => ⟨w1, w2, w3, jsn, R.ty hj hjN, fun z => hi0 (rO_none.mp z), R.ty hi1 hi2, fun z => go (decide_eq_true (fun x => absurd x z)), fun z => c_lies R WLh hj hjN ?_⟩⟩
      rw [jki_i, jb_0]
      refine ⟨fun y => go (decide_eq_true (fun _ x => by rw [y] at x; cases x)), fun y => ⟨R.ty hj hjN, c_isBelow R hj hjN hi2 ?_⟩⟩
      rw [jki_i, jb_0]
      have y' : lies S j = true := by simpa using y
      refine ⟨fun x => go (decide_eq_true (fun _ _ => by simpa using x)), fun x => bad (decide_eq_false (fun v => ?_))⟩
      rw [v z y'] at x; cases x
  exact loop (sN S - i) (i + 1) (by omega) (by omega) rfl
theorem c_fitsOver (R : RTree h S tr rw ad) {i o p e p' e' s s' : Nat} (hi1 : 1 ≤ i) (hi2 : i ≤ sN S) (ho1 : 1 ≤ o) (ho2 : o ≤ sN S) (a1 : jl h 192 (ad i + 1) = nL p) (a2 : jl h 193 (ad i + 1) = nL e) (a3 : p ≤ e) (a4 : ∀ t, jr h 10 (ad i) = some t → jl h 324 t = nL s) (b1 : jl h 192 (ad o + 1) = nL p') (b2 : jl h 193 (ad o + 1) = nL e') (b3 : p' ≤ e') (b4 : ∀ t, jr h 10 (ad o) = some t → jl h 324 t = nL s') (c1 : p < 2 ^ 63) (c2 : p' < 2 ^ 63) (c3 : (if tb S i = 0 then e - p else mo S i * s) < 2 ^ 63) (c4 : (if tb S o = 0 then e' - p' else mo S o * s') < 2 ^ 63)
    (hQ : Q (.inl (some (.inl (jb (decide (p = p' ∧ (lv S i = 1 ∨ (if tb S i = 0 then e - p else mo S i * s) ≤ (if tb S o = 0 then e' - p' else mo S o * s'))))))))  h) : jM g mX3_fitsOver [.inr (.inr (rO ad i)), .inr (.inr (rO ad o))] h 0 0 Q := by
  have h1 := jq_t hQ
  have h0 := jq_f hQ
  have hi0 : ¬ i = 0 := by omega
  have ho0 : ¬ o = 0 := by omega
  have l1 : ji h 1 (ad i) = 1 ↔ lv S i = 1 := by
    have := R.lvl hi1 hi2
    rw [← Int32.toInt_inj, this, show (1 : Int32).toInt = 1 from rfl]; omega
  refine eX3_fitsOver ⟨fun q => hi0 (rO_none.mp q), ?_⟩
  rw [rO_jd hi0, rO_jd ho0, R.sp hi1 hi2, jd_s, R.sp ho1 ho2, jd_s, a1, b1, nL_eq c1 c2, l1]
  refine ⟨R.ty hi1 hi2, jsn, R.st hi1 hi2, fun q => ho0 (rO_none.mp q), R.ty ho1 ho2, jsn, R.st ho1 ho2, fun z => ⟨fun y => h1 (decide_eq_true ⟨z, Or.inl y⟩), fun y => ?_⟩, fun z => h0 (decide_eq_false (fun y => z y.1))⟩
  refine c_extent R hi1 hi2 a1 a2 a3 a4 ?_
  rw [jkl_i]
  refine ⟨R.ty ho1 ho2, c_extent R ho1 ho2 b1 b2 b3 b4 ?_⟩
  rw [jkl_i, nL_lt c4 c3]
  exact ⟨fun x => h0 (decide_eq_false (fun v => by rcases v.2 with v | v; exact y v; omega)), fun x => h1 (decide_eq_true ⟨z, Or.inr (by omega)⟩)⟩
theorem c_fitsName (R : RTree h S tr rw ad) (hp : jr h 64 pn = some tr) (hpt : jt h pn = 2) {i p e p' e' : Nat} (hi1 : 1 ≤ i) (hi2 : i ≤ sN S) (a1 : jl h 192 (ad i + 1) = nL p) (a2 : jl h 193 (ad i + 1) = nL e) (a3 : p ≤ e) (b1 : ¬ na S i = 0 → jl h 192 (ad (fnm S (na S i)) + 1) = nL p' ∧ jl h 193 (ad (fnm S (na S i)) + 1) = nL e' ∧ p' ≤ e' ∧ e' - p' < 2 ^ 63) (c1 : e - p < 2 ^ 63)
    (hQ : Q (.inl (some (.inl (jb (decide (¬ na S i = 0 → e' - p' = e - p)))))) h) : jM g mX3_fitsFirstOfName [.inr (.inr (some pn)), .inr (.inr (rO ad i))] h 0 0 Q := by
  have h1 := jq_t hQ
  have h0 := jq_f hQ
  have hi0 : ¬ i = 0 := by omega
  refine eX3_fitsFirstOfName ⟨fun q => hi0 (rO_none.mp q), ?_⟩
  rw [rO_jd hi0, R.nai hi1 hi2]
  refine ⟨R.ty hi1 hi2, fun z => ⟨hpt, ?_⟩, fun z => ⟨fun _ => h1 (decide_eq_true (fun x => absurd z x)), fun q => absurd rfl q⟩⟩
  obtain ⟨b1, b2, b3, b4⟩ := b1 z
  obtain ⟨f0, f1⟩ := fnm_min hi1 hi2 rfl
  rw [hp, jd_s, fnm_nai R hi1 hi2]
  refine ⟨jsn, R.tg, c_firstOfName R (R.wf.2.2.2.2.2.2.2.2.2.2.1 i) ?_⟩
  rw [jkr_i]
  refine ⟨fun q => absurd (rO_none.mp q) f0, fun _ => ?_⟩
  rw [rO_jd f0]
  refine ⟨R.ty (by omega) (fnm_le S _), c_length R (by omega) (fnm_le S _) b1 b2 b3 ?_⟩
  rw [jkl_i, rO_jd hi0]
  refine ⟨fun q => hi0 (rO_none.mp q), R.ty hi1 hi2, c_length R hi1 hi2 a1 a2 a3 ?_⟩
  rw [jkl_i, nL_eq b4 c1]
  exact ⟨fun x => h0 (decide_eq_false (fun v => x (v z))), fun x => h1 (decide_eq_true (fun _ => x))⟩
end Lay6
