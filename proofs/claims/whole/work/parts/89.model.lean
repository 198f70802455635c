/-! the reference writes an item -/
section ModG
variable {g : jg} {h h' h1 : jh} {S : sg} {m : Nat} {Q : jq}
theorem s_fill339 (R : RS h S m) (F : WF S) {i p q n a : Nat} {x6 x7 : Int32} (i1 : 1 ≤ i) (i2 : i ≤ sN S) (hu : 3 ≤ us S i ∧ us S i ≤ 6) (hd1 : 1 ≤ dg S i) (en : n = byi S i) (ea : a = nab (vl S i)) (e6 : x6 = 0 ↔ ¬ (vl S i).toInt < 0) (eq : q = if us S i = 5 then p + 1 else p) (e7 : nI p + x7 = nI q) (hp : p + n ≤ 20000) (hQ : ∀ h', FA (m + 20) h h' → jI h' (m + 20) = wr p 0 n (ibt S i) (jI h (m + 20)) → Q (.inl none) h') : jG g mX10_fill 339 [(0, .inr (.inr (some m))), (1, .inl (nI i)), (2, .inl (nI p)), (3, .inl (nI n)), (4, .inr (.inl (nL a))), (6, .inl x6), (7, .inl x7), (8, .inl (nI (dg S i) - 1))] [] h 0 0 Q := by
  have hN := F.1
  have hv := nab_lt (vl S i)
  have hd : ∀ j, a / 10 ^ j < 2 ^ 63 := fun j => by have := Nat.div_le_self a (10 ^ j); omega
  have qn : q + dg S i ≤ 20000 := by
    have : n = if us S i = 5 ∨ us S i = 6 then dg S i + 1 else dg S i := by
      rw [en]
      unfold byi byts
      by_cases c : us S i = 5 ∨ us S i = 6
      · rw [if_neg (by omega), if_neg (by omega), if_pos c, if_pos c]
      · rw [if_pos (by omega), if_neg c]
    rw [eq]
    split
    · rename_i c; rw [if_pos (Or.inl c)] at this; omega
    · split at this <;> omega
  have n1 : 1 ≤ n := by
    rw [en]
    unfold byi byts
    split
    · omega
    · split
      · omega
      · split
        · omega
        · omega
  have z3 : nI (us S i) = 3 ↔ us S i = 3 := nI_eq (b := 3) (by omega) (by decide)
  have z6 : nI (us S i) = 6 ↔ us S i = 6 := nI_eq (b := 6) (by omega) (by decide)
  have en1 : nI n - 1 = nI (n - 1) := pk_sub n1
  have loop : ∀ k (h1 : jh), k ≤ dg S i → FA (m + 20) h h1 → jI h1 (m + 20) = wr q k (dg S i) (dig1 (dg S i) a 0 0) (jI h (m + 20)) → jG g mX10_fill 339 [(0, .inr (.inr (some m))), (1, .inl (nI i)), (2, .inl (nI p)), (3, .inl (nI n)), (4, .inr (.inl (nL (a / 10 ^ (dg S i - k))))), (6, .inl x6), (7, .inl x7), (8, .inl (nI k - 1))] [] h1 0 0 Q := by
    intro k
    induction k with
    | zero =>
      intro h1 _ F1 e1
      have R1 := R.fa F1
      obtain ⟨a1, a2, a3, a4⟩ := R1.aus i1 (by omega)
      have go : ∀ o : Nat, o = (if us S i = 3 ∨ us S i = 6 then n - 1 else 0) → VX10_fill_410 g m (nI i) (nI p) x6 (nI o) h1 0 0 Q := fun o eo =>
        s_fill410 R1 F i1 i2 hu hd1 en ea e6 eq eo hp e1 (fun h2 F2 e2 => hQ h2 (F1.trans F2) e2)
      refine vX10_fill_339 ⟨fun _ => ⟨R1.t, a1, a2, a3, ?_⟩, fun c => absurd (by decide) c⟩
      rw [a4, z3, z6, en1]
      exact ⟨fun c => go _ (by rw [if_pos (Or.inl c)]), fun c => ⟨fun c2 => go 0 (by rw [if_neg (by omega)]), fun c2 => go _ (by rw [if_pos (Or.inr c2)])⟩⟩
    | succ k ih =>
      intro h1 hk F1 e1
      have R1 := R.fa F1
      rw [nI_pred]
      refine vX10_fill_339 ⟨fun c => absurd c (nI_pos (by omega)), fun _ => ⟨R1.t, ?_⟩⟩
      rw [e7, nI_add, subm1, rem10 (hd _), div10 (hd _), dv1, show (48 : Int64) = nL 48 from rfl, nL_add, toInt32_nL]
      refine s_put R1 (k := q + k) (by omega) (fun h2 F2 e2 => ?_)
      have e1' : dg S i - (k + 1) + 1 = dg S i - k := by omega
      rw [e1']
      refine ih h2 (by omega) (F1.trans F2) ?_
      rw [e2, e1]
      have a2 : ((nI (48 + a / 10 ^ (dg S i - (k + 1)) % 10)).toInt8.toInt32).toInt8.toInt32 = dig1 (dg S i) a 0 0 k := by
        refine (b8_b8 _).trans ?_
        unfold dig1 dgt
        have : dg S i - 1 - k = dg S i - (k + 1) := by omega
        rw [this, ite_self]; rfl
      rw [a2]
      funext j
      exact wr_step (by omega) j
  have := loop (dg S i) h (Nat.le_refl _) FA.rf wr_all.symm
  rw [Nat.sub_self, Nat.pow_zero, Nat.div_one] at this
  exact this
theorem wr_up {p k : Nat} {f A : Nat → Int32} : wr1 (wr p 0 k f A) (p + k) (f k) = wr p 0 (k + 1) f A := by
  funext j
  unfold wr1 wr
  by_cases q : j = p + k
  · rw [if_pos q, if_pos (by omega)]
    congr 1; omega
  · rw [if_neg q]
    by_cases q2 : p + 0 ≤ j ∧ j < p + k
    · rw [if_pos q2, if_pos (by omega)]
    · rw [if_neg q2, if_neg (by omega)]
theorem s_fill120 (R : RS h S m) (F : WF S) {i p n : Nat} (i1 : 1 ≤ i) (i2 : i ≤ sN S) (hu : 1 ≤ us S i ∧ us S i ≤ 2) (hp : p + n ≤ 20000) (hQ : ∀ h', FA (m + 20) h h' → jI h' (m + 20) = wr p 0 n (ibt S i) (jI h (m + 20)) → Q (.inl none) h') : jG g mX10_fill 120 [(0, .inr (.inr (some m))), (1, .inl (nI i)), (2, .inl (nI p)), (3, .inl (nI n)), (7, .inl (nI 0))] [] h 0 0 Q := by
  have hN := F.1
  have z2 : nI (us S i) = 2 ↔ us S i = 2 := nI_eq (b := 2) (by omega) (by decide)
  have loop : ∀ r k (h1 : jh), k + r = n → FA (m + 20) h h1 → jI h1 (m + 20) = wr p 0 k (ibt S i) (jI h (m + 20)) → jG g mX10_fill 120 [(0, .inr (.inr (some m))), (1, .inl (nI i)), (2, .inl (nI p)), (3, .inl (nI n)), (7, .inl (nI k))] [] h1 0 0 Q := by
    intro r
    induction r with
    | zero =>
      intro k h1 hk F1 e1
      have : k = n := by omega
      subst this
      exact vX10_fill_120 ⟨fun _ => hQ h1 F1 e1, fun c => absurd (Int32.le_refl _) c⟩
    | succ r ih =>
      intro k h1 hk F1 e1
      have R1 := R.fa F1
      obtain ⟨a1, a2, a3, a4⟩ := R1.aus i1 (by omega)
      have nle : ¬ nI n ≤ nI k := by rw [nI_leI (by omega) (by omega)]; omega
      have step : ∀ v : Int32, v = ibt S i k → (¬ (jr h1 538 m) = none) ∧ (jt h1 (jd (jr h1 538 m)) = 21) ∧ (vp_in (nI (p + k)) (jn h1 (jd (jr h1 538 m)))) ∧ ∀ h2 : jh, h2 = jsI h1 (jd (jr h1 538 m)) (nI (p + k) : Int32).toNatClampNeg v → jG g mX10_fill 120 [(0, .inr (.inr (some m))), (1, .inl (nI i)), (2, .inl (nI p)), (3, .inl (nI n)), (7, .inl (nI (k + 1)))] [] h2 0 0 Q := by
        intro v ev
        refine s_put R1 (k := p + k) (by omega) (fun h2 F2 e2 => ih (k + 1) h2 (by omega) (F1.trans F2) ?_)
        rw [e2, e1, ev]
        exact wr_up
      refine vX10_fill_120 ⟨fun c => absurd c nle, fun _ => ⟨R1.t, a1, a2, a3, ?_⟩⟩
      rw [a4, z2, nI_add, nI_1, rem2 (by omega)]
      have zm : nI (k % 2) = 0 ↔ k % 2 = 0 := nI_eq (b := 0) (by omega) (by decide)
      rw [zm]
      refine ⟨fun c => step _ ?_, fun c => ⟨fun c2 => step _ ?_, fun c2 => step _ ?_⟩⟩
      · have c1 : us S i = 1 := by omega
        unfold ibt; rw [if_pos c1]; decide
      · have c1 : k % 2 = 1 := by omega
        unfold ibt; rw [if_neg (by omega), if_pos c, if_pos c1]; decide
      · unfold ibt; rw [if_neg (by omega), if_pos c, if_neg (by omega)]; decide
  refine loop n 0 h (by omega) FA.rf ?_
  funext j
  unfold wr
  rw [if_neg (by omega)]
/-- the reference writes an item's bytes -/
theorem s_fill (R : RS h S m) (W : WA S) {i p : Nat} (i1 : 1 ≤ i) (i2 : i ≤ sN S) (hu : ¬ us S i = 0) (hl : jL h (m + 22) i = nL (byi S i)) (hp : p + byi S i ≤ 20000) (hQ : ∀ h', FA (m + 20) h h' → jI h' (m + 20) = wri S i p (jI h (m + 20)) → Q (.inl none) h') : jM g mX10_fill [.inr (.inr (some m)), .inl (nI i), .inl (nI p)] h 0 0 Q := by
  have F := W.1
  have hN := F.1
  have hv := nab_lt (vl S i)
  obtain ⟨a1, a2, a3, a4⟩ := R.aus i1 (by omega)
  obtain ⟨b1, b2, b3, b4⟩ := R.ava i1 (by omega)
  obtain ⟨c1, c2, c3, c4⟩ := R.avl i1 (by omega)
  obtain ⟨d1, d2, d3, d4⟩ := R.adg i1 (by omega)
  obtain ⟨k1, k2, k3⟩ := R.k22
  have wu := F.us i
  have wva : va S i ≤ 1 := F.2.2.2.2.2.2.2.2.2.2.2.2.2.2.2.2.1 i
  have w5 := W.2.2.1.2.2.2.2.1 i
  have wd := WU_of W.2.1 i i1 i2
  have zu : ∀ k : Nat, k < 100 → (nI (us S i) = nI k ↔ us S i = k) := fun k hk => nI_eq (by omega) (by omega)
  have z5 : nI (us S i) = 5 ↔ us S i = 5 := zu 5 (by decide)
  have z7 : nI (us S i) = 7 ↔ us S i = 7 := zu 7 (by decide)
  have z8 : nI (us S i) = 8 ↔ us S i = 8 := zu 8 (by decide)
  have l3 : (3 : Int32) ≤ nI (us S i) ↔ 3 ≤ us S i := nI_leI (a := 3) (by decide) (by omega)
  have l7 : (7 : Int32) ≤ nI (us S i) ↔ 7 ≤ us S i := nI_leI (a := 7) (by decide) (by omega)
  have hQ9 : 9 ≤ us S i → Q (.inl none) h := fun c => hQ h FA.rf (by unfold wri; rw [if_pos c])
  have hQ8 : ¬ 9 ≤ us S i → ∀ h', FA (m + 20) h h' → jI h' (m + 20) = wr p 0 (byi S i) (ibt S i) (jI h (m + 20)) → Q (.inl none) h' := fun c h' F' e' => hQ h' F' (by unfold wri; rw [if_neg c]; exact e')
  have neg : (0 : Int64) ≤ (vl S i).toInt64 ↔ ¬ (vl S i).toInt < 0 := by
    rw [Int64.le_iff_toInt_le, Int32.toInt_toInt64, show (0 : Int64).toInt = 0 from rfl]; omega
  have h327 : ∀ x6 : Int32, (x6 = 0 ↔ ¬ (vl S i).toInt < 0) → 3 ≤ us S i → us S i ≤ 6 → ∀ x7 : Int32, x7 = (if us S i = 5 then 1 else 0) → VX10_fill_327 g m (nI i) (nI p) (nI (byi S i)) (nL (nab (vl S i))) x6 x7 h 0 0 Q := by
    intro x6 e6 u1 u2 x7 e7
    refine ⟨R.t, d1, d2, d3, ?_⟩
    rw [d4]
    refine s_fill339 R F i1 i2 ⟨u1, u2⟩ (wd u1 (by omega)) rfl rfl e6 rfl ?_ hp (hQ8 (by omega))
    rw [e7]
    split
    · exact nI_1 p
    · rw [Int32.add_zero]
  have h105 : ∀ x6 : Int32, (x6 = 0 ↔ ¬ (vl S i).toInt < 0) → ¬ us S i = 8 → VX10_fill_105 g m (nI i) (nI p) (nI (byi S i)) x6 (nL (nab (vl S i))) h 0 0 Q := by
    intro x6 e6 n8
    refine ⟨R.t, a1, a2, a3, ?_⟩
    rw [a4, l3, z7, l7, z5]
    refine ⟨fun u3 => ⟨fun n7 => ⟨fun u7 => hQ9 (by omega), fun u7 => ⟨fun n5 => h327 x6 e6 u3 (by omega) 0 (by rw [if_neg n5]), fun n5 => h327 x6 e6 u3 (by omega) 1 (by rw [if_pos n5])⟩⟩, fun u7 => ?_⟩, fun u3 => ?_⟩
    · refine s_fill186 R (s := if (vl S i).toInt < 0 then 13 else 12) (by omega) ?_ hp (fun h' F' e' => hQ8 (by omega) h' F' ?_)
      · by_cases c : (vl S i).toInt < 0
        · rw [if_pos c, if_neg (fun z => (e6.mp z) c)]
        · rw [if_neg c, if_pos (e6.mpr c)]
      · rw [e']
        congr 1
        funext o
        unfold ibt
        simp [u7]
    · exact s_fill120 R F i1 i2 (by omega) hp (hQ8 (by omega))
  have h42 : ∀ x6 : Int32, (x6 = 0 ↔ ¬ (vl S i).toInt < 0) → VX10_fill_42 g m (nI i) (nI p) (nI (byi S i)) (vl S i).toInt64 x6 h 0 0 Q := by
    intro x6 e6
    refine ⟨R.t, a1, a2, a3, ?_⟩
    rw [a4, z8]
    have ab := abs_L (vl S i)
    have pos : 0 < (vl S i).toInt64 ↔ 0 < (vl S i).toInt := by rw [Int64.lt_iff_toInt_lt, Int32.toInt_toInt64]; rfl
    refine ⟨fun n8 => ⟨fun c => ?_, fun c => ?_⟩, fun u8 => ?_⟩
    · have e : (vl S i).toInt64 = nL (nab (vl S i)) := by
        by_cases q : 0 < (vl S i).toInt
        · rw [if_pos (pos.mpr q)] at ab; exact ab
        · have q0 : (vl S i).toInt = 0 := by have := e6.mp c; omega
          have : vl S i = 0 := by rw [← Int32.toInt_inj]; exact q0
          rw [this]; decide
      rw [e]; exact h105 x6 e6 n8
    · have q : (vl S i).toInt < 0 := Decidable.not_not.mp (fun z => c (e6.mpr z))
      have e : -(vl S i).toInt64 = nL (nab (vl S i)) := by
        rw [if_neg (fun z => by have := pos.mp z; omega)] at ab; exact ab
      rw [e]; exact h105 x6 e6 n8
    · refine s_fill60 R hp (fun h' F' e' => hQ8 (by omega) h' F' ?_)
      rw [e']
      congr 1
      funext o
      unfold ibt
      rw [if_neg (by omega), if_neg (by omega), if_pos u8]
  have h28 : VX10_fill_28 g m (nI i) (nI p) (nI (byi S i)) (vl S i).toInt64 h 0 0 Q := by
    unfold VX10_fill_28
    rw [neg]
    exact ⟨fun c => h42 0 ⟨fun _ => c, fun _ => rfl⟩, fun c => h42 1 ⟨fun z => absurd z (by decide), fun z => absurd z c⟩⟩
  refine eX10_fill ?_
  unfold VX10_fill_0
  rw [k1, jd_s, k3, nI_clamp (n := i) (by omega), hl, toInt32_nL]
  rw [nI_clamp (n := i) (by omega)] at b4 c4
  rw [b4, c4]
  have zv : nI (va S i) = 0 ↔ va S i = 0 := nI_eq (b := 0) (by omega) (by decide)
  rw [zv]
  refine ⟨R.t, jsn, k2, vp_in_nI (by omega) (by decide), b1, b2, b3, fun c => ?_, fun c => ⟨c1, c2, c3, h28⟩⟩
  have : (0 : Int64) = (vl S i).toInt64 := by rw [w5.1 c]; decide
  rw [this]; exact h28
end ModG
