/-! holds: the contract -/
section Hol2
variable {g : jg} {h : jh} {S : sg} {x b1 b2 tr rw pn so al n : Nat} {ad : Nat → Nat} {A : Nat → Int32} {Q : jq}
theorem c_read (R : RTree h S tr rw ad) (H : BS h so al n A) {i : Nat} (hi1 : 1 ≤ i) (hi2 : i ≤ sN S) (hd : 1 ≤ dg S i ∧ dg S i ≤ 18) (hu : 3 ≤ us S i ∧ us S i ≤ 8) (hs : jl h 192 (ad i + 1) = nL (pl S i)) (hp : pl S i + byi S i ≤ n) (hQ : ∀ v, rdn S A i = some v → Q (.inl (some (.inr (.inl v)))) h) (hX : rdn S A i = none → ∀ z, jz h ≤ z → Q (.inr 2) (jgr h z)) : jM g mX2_read [.inr (.inr (some so)), .inr (.inr (rO ad i))] h 2 12 Q := by
  have hi0 : ¬ i = 0 := by omega
  have e8 : ji h 2 (ad i) = 8 ↔ us S i = 8 := R.usk (k := 8) hi1 hi2 (by decide)
  have e7 : ji h 2 (ad i) = 7 ↔ us S i = 7 := R.usk (k := 7) hi1 hi2 (by decide)
  refine eX2_read ⟨fun q => hi0 (rO_none.mp q), ?_⟩
  rw [rO_jd hi0, e8, e7, R.sp hi1 hi2, jd_s, hs, toInt32_nL, R.bys hi1 hi2]
  refine ⟨R.ty hi1 hi2, jsn, R.st hi1 hi2, fun c => ⟨fun c2 => ?_, fun c2 => ?_⟩, fun c => ?_⟩
  · exact ⟨2, 12, Nat.le_refl _, Nat.le_refl _, c_readDigits R H hi1 hi2 hd (by omega) hs hp (fun v hv => hQ v hv) (fun hv => hX hv)⟩
  · have er : rdn S A i = rpk A (pl S i) (byi S i) (dg S i) := by
      unfold rdn
      rw [if_neg c, if_pos c2]
    exact ⟨1, 6, by decide, by decide, c_readPacked R H hi1 hi2 hd c2 hp (fun v hv => hQ v (er.trans hv)) (fun hv => hX (er.trans hv))⟩
  · have er : rdn S A i = some (rbn A (pl S i) (byi S i - 1)) := by
      unfold rdn
      rw [if_pos c]
    have hb : 1 ≤ byi S i := by
      unfold byi byts
      simp [c]
      split
      · omega
      · split <;> omega
    refine c_readBinary H hb hp ?_
    exact hQ _ er
theorem c_contain (R : RTree h S tr rw ad) {i r : Nat} {v : Int64} (hi1 : 1 ≤ i) (hi2 : i ≤ sN S) (hr : jr h 14 (ad i) = some r) (hQ : Q (.inl (some (.inl (jb (scn S i v))))) h) : jM g mX4_contain [.inr (.inr (some r)), .inr (.inl v)] h 0 0 Q := by
  have h1 := jq_t hQ
  have h0 := jq_f hQ
  have rn0 : ¬ rg S i = 0 := fun q => by
    have := (RR.nn R hi1 hi2).mpr q
    rw [hr] at this; cases this
  obtain ⟨r', y1, y2, y3, y4, y5, y6, y7, y8, y9, y10⟩ := (R.r hi1 hi2).2 rn0
  rw [hr] at y1
  cases y1
  have g8 : rg S i ≤ 8 := R.wf.2.2.2.2.2.2.2.2.2.1 i
  have loop : ∀ d k, k + d = rg S i → rany (fun k => decide ((rf S k i).toInt ≤ v.toInt ∧ v.toInt ≤ (rt S k i).toInt)) k d = scn S i v → jG g mX4_contain 2 [(0, .inr (.inr (some r))), (1, .inr (.inl v)), (3, .inl (nI k))] [] h 0 0 Q := by
    intro d
    induction d with
    | zero =>
      intro k e er
      refine vX4_contain_2 ⟨y2, ?_⟩
      rw [y9, nI_leI (by omega) (by omega)]
      exact ⟨fun _ => h0 er.symm, fun c => absurd (by omega) c⟩
    | succ d ih =>
      intro k e er
      have er' : (decide ((rf S k i).toInt ≤ v.toInt ∧ v.toInt ≤ (rt S k i).toInt) || rany (fun k => decide ((rf S k i).toInt ≤ v.toInt ∧ v.toInt ≤ (rt S k i).toInt)) (k + 1) d) = scn S i v := er
      refine vX4_contain_2 ⟨y2, ?_⟩
      have z8 : (8 : Int32) ≤ nI k ↔ 8 ≤ k := nI_leI (a := 8) (by decide) (by omega)
      rw [y9, nI_leI (by omega) (by omega), z8]
      refine ⟨fun c => absurd c (by omega), fun _ => ⟨fun c => absurd c (by omega), fun _ => ?_⟩⟩
      obtain ⟨k1, k2⟩ := y10 k (by omega)
      rw [y3, jd_s, y4, jd_s, y7, y8, nI_clamp (by omega), k1, k2, nI_1]
      have l1 : v < (rf S k i).toInt64 ↔ v.toInt < (rf S k i).toInt := by rw [Int64.lt_iff_toInt_lt, Int32.toInt_toInt64]
      have l2 : (rt S k i).toInt64 < v ↔ (rt S k i).toInt < v.toInt := by rw [Int64.lt_iff_toInt_lt, Int32.toInt_toInt64]
      rw [l1, l2]
      refine ⟨jsn, y5, vp_in_nI (by omega) (by decide), fun c => ?_, fun c => ⟨jsn, y6, vp_in_nI (by omega) (by decide), fun c2 => ?_, fun c2 => ?_⟩⟩
      · rw [decide_eq_false (by omega)] at er'
        exact ih (k + 1) (by omega) er'
      · rw [decide_eq_false (by omega)] at er'
        exact ih (k + 1) (by omega) er'
      · rw [decide_eq_true (by omega)] at er'
        exact h1 er'.symm
  exact eX4_contain (loop (rg S i) 0 (by omega) rfl)
theorem c_holds (C : RCx h S x b1 b2 tr pn so rw al ad) (M : WM S) (Wh : WH S) {u : Int32} (hQ : ∀ v, shol S u = .inl v → Q (.inl (some (.inl (jb v)))) h) (hX : ∀ k, shol S u = .inr k → ∀ h', RC h' S x b1 b2 (jn h al) → FB b1 b2 h h' → Q (.inr k) h') : jM g mX9_holds [.inr (.inr (some x)), .inl u] h 2 12 Q := by
  obtain ⟨x1, x2, x3, x4, x5, x6, x7, x8, x9, x10, x11, x12, x13, x14, R, H, B, J, L⟩ := id C
  have l0 : ji h 451 x = 0 ↔ laid S = 0 := by
    rw [x5, show (0 : Int32) = nI 0 from rfl, nI_eq (by have := M.1; omega) (by decide)]
  have hf := fnd_le S u R.N
  have thr : ∀ k, shol S u = .inr k → ∀ z, jz h ≤ z → Q (.inr k) (jgr h z) := fun k hk z hz => hX k hk _ (C.gr hz).1 (C.gr hz).2
  have z : rO ad (fnd S u) = none ↔ fnd S u = 0 := rO_none
  refine eX9_holds ⟨x1, ?_⟩
  rw [x2, jd_s]
  refine ⟨jsn, R.tg, c_find R ?_⟩
  rw [jkr_i, z]
  refine ⟨fun c => ⟨by decide, by decide, thr 1 (if_pos (Or.inl c))⟩, fun c => ?_⟩
  have es : shol S u = if ¬ lv S (fnd S u) = 88 ∨ nam S (fnd S u) = 0 then .inr 1 else if laid S = 0 then .inr 2 else match rdn S (bv S) (nam S (fnd S u)) with
      | none => .inr 2
      | some v => .inl (scn S (fnd S u) v) := by
    unfold shol
    by_cases q : ¬ lv S (fnd S u) = 88 ∨ nam S (fnd S u) = 0
    · rw [if_pos (Or.inr q), if_pos q]
    · rw [if_neg (fun w => by rcases w with w | w; exact c w; exact q w), if_neg q]; rfl
  generalize hi : fnd S u = i at *
  have hi1 : 1 ≤ i := by omega
  have e88 : ji h 1 (ad i) = 88 ↔ lv S i = 88 := by
    rw [← Int32.toInt_inj, R.lvl hi1 hf, show (88 : Int32).toInt = 88 from rfl]; omega
  have zn : rO ad (nam S i) = none ↔ nam S i = 0 := rO_none
  have nmr : jr h 6 (ad i) = rO ad (nam S i) := (R.i hi1 hf).2.2.2.2.2.2.2.2.1
  rw [rO_jd c, e88, nmr, zn, l0, x4]
  refine ⟨R.ty hi1 hf, fun q => ⟨by decide, by decide, thr 1 ?_⟩, fun q => ⟨fun q2 => ⟨x1, fun q3 => ?_, fun q3 => ⟨by decide, by decide, thr 2 ?_⟩⟩, fun q2 => ⟨by decide, by decide, thr 1 ?_⟩⟩⟩
  · rw [es, if_pos (Or.inl q)]
  · have l1 := M.l1 q3
    obtain ⟨w1, w2, w3, w4, w5, w6, w7⟩ := Wh i hi1 hf q2
    rw [if_neg (by omega), if_neg q3] at es
    have ll := ((L l1).2.2.2.2 _ (by omega) w1).1 w6
    refine ⟨2, 12, Nat.le_refl _, Nat.le_refl _, c_read R (C.bs l1) (by omega) w1 ⟨w4, w5⟩ ⟨w2, w3⟩ ll.1 (w7 l1) (fun v hv => ?_) (fun hv => ?_)⟩
    · rw [hv] at es
      have es' : shol S u = .inl (scn S i v) := es
      have hh := hQ _ es'
      rw [jkl_i]
      refine ⟨R.ty hi1 hf, fun q4 => ?_, fun q4 => ?_⟩
      · have r0 := (RR.nn R hi1 hf).mp q4
        have : scn S i v = false := by unfold scn; rw [r0]; rfl
        rw [this] at hh; exact hh
      · obtain ⟨r, hr⟩ : ∃ r, jr h 14 (ad i) = some r := by
          cases hq : jr h 14 (ad i) with
          | none => exact absurd hq q4
          | some r => exact ⟨r, rfl⟩
        rw [hr, jd_s]
        have rt3 : jt h r = 3 := by
          have rn0 : ¬ rg S i = 0 := fun w => by
            have := (RR.nn R hi1 hf).mpr w
            rw [hr] at this; cases this
          obtain ⟨r', y1, y2, -⟩ := (R.r hi1 hf).2 rn0
          rw [hr] at y1
          cases y1
          exact y2
        refine ⟨rt3, c_contain R hi1 hf hr ?_⟩
        rw [jki_i, jb_0]
        refine ⟨fun w => ?_, fun w => ?_⟩
        · rw [w] at hh; exact hh
        · have : scn S i v = true := by simpa using w
          rw [this] at hh; exact hh
    · rw [hv] at es
      exact thr 2 es
  · rw [es, if_neg (by omega), if_pos q3]
  · rw [es, if_pos (Or.inr q2)]
end Hol2
