/-! the reference: redefines, external, depending, checks -/
section Mod8
variable {g : jg} {h h' : jh} {S S' : sg} {m : Nat} {Q : jq}
theorem lt0 {c : Nat} (h : c < 2 ^ 31) : 0 < nI c ↔ 0 < c := nI_ltI (a := 0) (by decide) h
theorem nam1 {c : Nat} (h : c ≤ 100) : nI c - 1 = -1 ↔ c = 0 := by
  rw [← Int32.toInt_inj, show (1 : Int32) = nI 1 from rfl, pk_sub_toInt (by omega) (by decide), show (-(nI 1) : Int32).toInt = -1 from rfl]; omega
theorem mV_big {a i v j x : Nat} (ha : 16 ≤ a) (hj2 : j ≤ 16) : mV (sset S a i v) j x = mV S j x := by
  unfold mV
  by_cases j12 : j = 12
  · rw [if_pos j12, if_pos j12]; rfl
  · rw [if_neg j12, if_neg j12]
    congr 1
    have hb : ∀ b, b ≤ 15 → (sset S a i v).1 b x = S.1 b x := fun b hb => by
      show (if b = a ∧ x = i then v else if b = 17 then 0 else S.1 b x) = _
      rw [if_neg (by omega), if_neg (by omega)]
    exact hb _ (by split <;> omega)
theorem m_redefines (M : RM h S m) (W : WA S) {u v : Int32} (hQ : ∀ h', RM h' (sred S u v).2 m → FMb m h h' → Q (.inl (some (.inl (sred S u v).1))) h') : jM g mX10_redefines [.inr (.inr (some m)), .inl u, .inl v] h 0 0 Q := by
  have hN := W.n
  have F := W.1
  have A := W.2.1
  have B := W.2.2.1
  have hp := W.wb.p
  refine eX10_redefines ⟨M.t, ?_⟩
  intro h1 e1
  have M1 : RM h1 S m := by rw [e1]; exact M.th
  have f1 : FMb m h h1 := FMb.si e1 (by decide)
  have same : ∀ r : Int32, sred S u v = (r, S) → Q (.inl (some (.inl r))) h1 := fun r e => by
    have := hQ h1 (by rw [e]; exact M1) f1
    rw [e] at this; exact this
  have hu := fnd_le S u hN
  have hv := fnd_le S v hN
  refine m_is M1 hN ?_
  rw [jki_i, jb_0]
  refine ⟨fun c => same _ (if_pos (Or.inl (Decidable.not_not.mp (of_decide_eq_false c)))), fun c => ⟨M1.t, m_is M1 hN ?_⟩⟩
  have u0 : ¬ fnd S u = 0 := of_decide_eq_true (by simpa using c)
  rw [jki_i, jb_0]
  refine ⟨fun c2 => ?_, fun c2 => same _ (if_pos (Or.inr (Decidable.not_not.mp (of_decide_eq_false c2))))⟩
  have v0 : ¬ fnd S v = 0 := of_decide_eq_true (by simpa using c2)
  have eu := fnd_eq hN u0
  have ev := fnd_eq hN v0
  have es : sred S u v = if okR S (fnd S u) (fnd S v) = false then (0, S) else (1, sset (sset S 15 (fnd S u) (fnd S v)) 22 (fnd S v) 1) := by
    unfold sred
    rw [if_neg (by omega)]
  rw [eu, ev]
  generalize hi : fnd S u = i at *
  generalize ho : fnd S v = o at *
  have i1 : 1 ≤ i := by omega
  have o1 : 1 ≤ o := by omega
  have no : ¬ (o < i ∧ lv S o = lv S i ∧ lv S i ≤ 49 ∧ cpa S o = cpa S i ∧ ot S o = 0 ∧ tb S o = 0 ∧ ot S i = 0 ∧ rd S i = 0 ∧ na S i = 0 ∧ na S o = 0 ∧ rall (abr S i o) (o + 1) (i - (o + 1)) = true ∧ rany (hvl S i) i (sN S + 1 - i) = false) → Q (.inl (some (.inl 0))) h1 := fun q => same _ (by rw [es, if_pos (c := okR S i o = false) (decide_eq_false q)])
  obtain ⟨a1, a2, a3, a4⟩ := M1.alv i1 (by omega)
  obtain ⟨b1, b2, b3, b4⟩ := M1.alv (i := o) o1 (by omega)
  obtain ⟨c1, c2, c3, c4⟩ := M1.apa i1 (by omega)
  obtain ⟨d1, d2, d3, d4⟩ := M1.apa (i := o) o1 (by omega)
  obtain ⟨p1, p2, p3, p4⟩ := M1.aot i1 (by omega)
  obtain ⟨q1, q2, q3, q4⟩ := M1.aot (i := o) o1 (by omega)
  obtain ⟨r1, r2, r3, r4⟩ := M1.atb (i := o) o1 (by omega)
  obtain ⟨s1, s2, s3, s4⟩ := M1.ana i1 hu hN
  obtain ⟨t1, t2, t3, t4⟩ := M1.ana (i := o) o1 hv hN
  have wli := F.lv i
  have wlo := F.lv o
  have wpi := F.2.1 i (by omega)
  have wpo := F.2.1 o (by omega)
  have woi : ot S i < i ∨ ot S i = 0 := F.2.2.2.2.2.2.2.2.2.2.2.2.1 i
  have woo : ot S o < o ∨ ot S o = 0 := F.2.2.2.2.2.2.2.2.2.2.2.2.1 o
  have wto := F.2.2.2.2.2.1 o
  have e49 : (49 : Int32) < nI (lv S i) ↔ 49 < lv S i := nI_ltI (a := 49) (by decide) (by omega)
  rw [nI_leI (by omega) (by omega), a4, b4, c4, d4, p4, q4, r4, s4, t4, nI_eq (by omega) (by omega), e49, nI_eq (by omega) (by omega), lt0 (by omega), lt0 (by omega), lt0 (by omega), nam1 (F.2.2.2.2.2.2.2.2.2.2.1 i), nam1 (F.2.2.2.2.2.2.2.2.2.2.1 o)]
  refine ⟨fun w => no (by omega), fun w => ⟨M1.t, a1, a2, a3, b3, fun w2 => no (by omega), fun w2 => ⟨fun w3 => no (by omega), fun w3 => ⟨c1, c2, c3, d3, fun w4 => ?_, fun w4 => ?_⟩⟩⟩⟩
  all_goals
    have lii : lies S i = true := lies_mk (by omega)
    have lio : lies S o = true := lies_mk (by omega)
    have pci := pa_cpa A i1 hu lii
    have pco := pa_cpa A o1 hv lio
  · refine ⟨p1, p2, p3, fun w5 => no (by omega), fun w5 => ⟨q3, fun w6 => no (by omega), fun w6 => ⟨r1, r2, r3, fun w7 => no (by omega), fun w7 => ⟨s1, s2, s3, fun w8 => no (fun y => w8 y.2.2.2.2.2.2.2.2.1), fun w8 => ⟨t3, fun w9 => no (fun y => w9 y.2.2.2.2.2.2.2.2.2.1), fun w9 => m_isRedefined M1 W i1 (by omega) ?_⟩⟩⟩⟩⟩
    rw [jki_i, jb_0, nI_1]
    refine ⟨fun w10 => ?_, fun w10 => no (fun y => (of_decide_eq_true (by simpa using w10 : decide (¬ rd S i = 0) = true)) y.2.2.2.2.2.2.2.1)⟩
    have rd0 : rd S i = 0 := Decidable.not_not.mp (of_decide_eq_false w10)
    -- values
    have loop2 : ∀ n j, j + n = sN S + 1 → i ≤ j → rall (abr S i o) (o + 1) (i - (o + 1)) = true → (∀ k, i ≤ k → k < j → hvl S i k = false) → jG g mX10_redefines 188 [(0, .inr (.inr (some m))), (1, .inl (nI i)), (2, .inl (nI o)), (3, .inl (nI j))] [] h1 0 0 Q := by
      intro n
      induction n with
      | zero =>
        intro j e _ hall hv'
        refine vX10_redefines_188 ⟨M1.t, ?_⟩
        rw [M1.many, nI_clamp (by omega)]
        refine ⟨fun _ => ⟨p1, p2, p3, ?_⟩, fun c => absurd (nI_lt (by omega) (by omega)) c⟩
        intro h2 x2 h3 x3
        have r16 : jr h1 529 m = some (m + 16) := (M1.p 16 (by decide) (by decide)).1
        rw [r16, jd_s] at x2
        obtain ⟨M2, F2⟩ := M1.s1 (j := 16) (a := 15) (v := o) (h' := h3) (by decide) (by decide) (by decide) rfl (by omega) rfl x2 (by decide) x3
        have okr : okR S i o = true := by
          refine decide_eq_true ⟨by omega, by omega, by omega, by omega, by omega, by omega, by omega, rd0, w8, w9, hall, ?_⟩
          cases q : rany (hvl S i) i (sN S + 1 - i) with
          | false => rfl
          | true =>
            rw [rany_iff] at q
            obtain ⟨k, x1, x2', x3'⟩ := q
            rw [hv' k x1 (by omega)] at x3'; cases x3'
        rw [if_neg (by rw [okr]; decide)] at es
        have := hQ h3 ?_ (f1.trans F2)
        · rw [es] at this; exact this
        · rw [es]
          show RM h3 (sset (sset S 15 i o) 22 o 1) m
          refine M2.st FMb.rf rfl rfl ?_ (fun _ _ _ => rfl) rfl rfl (fun j x y1 y2 y3 y4 => ?_) (fun x y1 y2 => ?_) (fun x k y1 y2 y3 => ?_)
          · rw [x3, ji_si, if_pos ⟨rfl, rfl⟩]
          · exact (M2.row y1 y2 y3 y4).trans (mV_big (a := 22) (by decide) y2).symm
          · exact M2.2.2.2.2.2.2.1 x y1 y2
          · exact M2.2.2.2.2.2.2.2.1 x k y1 y2 y3
      | succ n ih =>
        intro j e hj hall hv'
        have hjN : j ≤ sN S := by omega
        obtain ⟨x1, x2, x3, x4⟩ := M1.ava (i := j) (by omega) (by omega)
        have wv : va S j ≤ 1 := F.2.2.2.2.2.2.2.2.2.2.2.2.2.2.2.2.1 j
        have zv : nI (va S j) = 0 ↔ va S j = 0 := nI_eq (b := 0) (by omega) (by decide)
        have next : hvl S i j = false → jG g mX10_redefines 188 [(0, .inr (.inr (some m))), (1, .inl (nI i)), (2, .inl (nI o)), (3, .inl (nI (j + 1)))] [] h1 0 0 Q := fun y => ih (j + 1) (by omega) (by omega) hall (fun k y1 y2 => by
          by_cases ek : k = j
          · rw [ek]; exact y
          · exact hv' k y1 (by omega))
        have bad : hvl S i j = true → Q (.inl (some (.inl 0))) h1 := fun y => no (fun z => by
          have z12 := z.2.2.2.2.2.2.2.2.2.2.2
          have : rany (hvl S i) i (sN S + 1 - i) = true := by
            rw [rany_iff]; exact ⟨j, hj, by omega, y⟩
          rw [z12] at this; cases this)
        refine vX10_redefines_188 ⟨M1.t, ?_⟩
        rw [M1.many, x4, zv, nI_1, nI_eq (by omega) (by omega)]
        refine ⟨fun c => absurd c (nI_nlt (by omega) (by omega)), fun _ => ⟨x1, x2, x3, fun y => next (decide_eq_false (fun z => z.1 y)), fun y => ⟨fun y2 => bad (decide_eq_true ⟨y, Or.inl y2⟩), fun y2 => ?_⟩⟩⟩
        have bv' := (B.2.2.2.2.1 j).2 y
        have wl := (A j (by omega) hjN).1
        have okj := of_decide_eq_true (A j (by omega) hjN).2.1
        refine m_below M1 W (by omega) hjN (lies_mk (by omega)) i1 (by omega) ?_
        rw [jki_i, jb_0]
        refine ⟨fun y3 => next (decide_eq_false (fun z => ?_)), fun y3 => bad (decide_eq_true ⟨y, Or.inr (by simpa using y3)⟩)⟩
        rcases z.2 with z | z
        · exact y2 z
        · rw [y3] at z; cases z
    -- those between
    have loop1 : ∀ n j, j + n = i → o < j → (∀ k, o < k → k < j → abr S i o k = true) → jG g mX10_redefines 133 [(0, .inr (.inr (some m))), (1, .inl (nI i)), (2, .inl (nI o)), (3, .inl (nI j))] [] h1 0 0 Q := by
      intro n
      induction n with
      | zero =>
        intro j e _ hall
        refine vX10_redefines_133 ?_
        unfold VX10_redefines_133
        rw [nI_leI (by omega) (by omega)]
        refine ⟨fun _ => loop2 (sN S + 1 - i) i (by omega) (Nat.le_refl _) ?_ (fun k y1 y2 => by omega), fun c => absurd (by omega) c⟩
        rw [rall_iff]
        exact fun k y1 y2 => hall k (by omega) (by omega)
      | succ n ih =>
        intro j e hj hall
        have hjN : j ≤ sN S := by omega
        obtain ⟨x1, x2, x3, x4⟩ := M1.alv (i := j) (by omega) (by omega)
        obtain ⟨y1, y2, y3, y4⟩ := M1.apa (i := j) (by omega) (by omega)
        obtain ⟨z1, z2, z3, z4⟩ := M1.aot (i := j) (by omega) (by omega)
        have wl := F.lv j
        have wp := F.2.1 j (by omega)
        have wo : ot S j < j ∨ ot S j = 0 := F.2.2.2.2.2.2.2.2.2.2.2.2.1 j
        have next : abr S i o j = true → jG g mX10_redefines 133 [(0, .inr (.inr (some m))), (1, .inl (nI i)), (2, .inl (nI o)), (3, .inl (nI (j + 1)))] [] h1 0 0 Q := fun y => ih (j + 1) (by omega) (by omega) (fun k v1 v2 => by
          by_cases ek : k = j
          · rw [ek]; exact y
          · exact hall k v1 (by omega))
        refine vX10_redefines_133 ?_
        unfold VX10_redefines_133
        rw [nI_leI (by omega) (by omega), x4, a4, y4, c4, z4, nI_eq (by omega) (by omega), nI_eq (by omega) (by omega), nI_eq (by omega) (by omega), nI_1]
        refine ⟨fun c => absurd c (by omega), fun _ => ⟨M1.t, x1, x2, x3, a3, fun v1 => next (decide_eq_true (fun z => v1 z.1)), fun v1 => ?_⟩⟩
        have lj : lies S j = true := lies_mk (by omega)
        have pcj := pa_cpa A (by omega) hjN lj
        refine ⟨y1, y2, y3, c3, fun v2 => next (decide_eq_true (fun z => v2 (by omega))), fun v2 => ⟨z1, z2, z3, fun v3 => next (decide_eq_true (fun z => z.2.2 v3)), fun v3 => no (fun z => ?_)⟩⟩
        have z11 := z.2.2.2.2.2.2.2.2.2.2.1
        rw [rall_iff] at z11
        exact of_decide_eq_true (z11 j (by omega) (by omega)) ⟨v1, by omega, v3⟩
    exact loop1 (i - (o + 1)) (o + 1) (by omega) (by omega) (fun k y1 y2 => by omega)
  · exact no (by omega)
theorem m_external (M : RM h S m) (W : WA S) {u v : Int32} (hQ : ∀ h', RM h' (sext S u v).2 m → FMb m h h' → Q (.inl (some (.inl (sext S u v).1))) h') : jM g mX10_external [.inr (.inr (some m)), .inl u, .inl v] h 0 0 Q := by
  have hN := W.n
  have F := W.1
  refine eX10_external ⟨M.t, ?_⟩
  intro h1 e1
  have M1 : RM h1 S m := by rw [e1]; exact M.th
  have f1 : FMb m h h1 := FMb.si e1 (by decide)
  have same : ∀ r : Int32, sext S u v = (r, S) → Q (.inl (some (.inl r))) h1 := fun r e => by
    have := hQ h1 (by rw [e]; exact M1) f1
    rw [e] at this; exact this
  have hu := fnd_le S u hN
  refine m_is M1 hN ?_
  rw [jki_i, jb_0]
  refine ⟨fun c => ?_, fun c => same _ (if_pos (Decidable.not_not.mp (of_decide_eq_false c)))⟩
  have u0 : ¬ fnd S u = 0 := of_decide_eq_true (by simpa using c)
  have eu := fnd_eq hN u0
  have es : sext S u v = if v.toInt < 0 ∨ 99 < v.toInt then (-4, S) else if ¬ lv S (fnd S u) = 1 ∨ ¬ na S (fnd S u) = 0 ∨ ¬ ot S (fnd S u) = 0 ∨ ¬ rd S (fnd S u) = 0 then (0, S) else (1, sset S 16 (fnd S u) (v.toInt.toNat + 1)) := if_neg u0
  have z0 : v < 0 ↔ v.toInt < 0 := by rw [Int32.lt_iff_toInt_lt]; rfl
  have z9 : v ≤ 99 ↔ v.toInt ≤ 99 := by rw [Int32.le_iff_toInt_le]; rfl
  rw [eu, z0, z9]
  generalize hi : fnd S u = i at *
  have i1 : 1 ≤ i := by omega
  refine ⟨fun w => same _ (by rw [es, if_pos (Or.inl w)]), fun w => ⟨fun w2 => ⟨M1.t, ?_⟩, fun w2 => same _ (by rw [es, if_pos (by omega)])⟩⟩
  rw [if_neg (by omega)] at es
  have no : (¬ lv S i = 1 ∨ ¬ na S i = 0 ∨ ¬ ot S i = 0 ∨ ¬ rd S i = 0) → Q (.inl (some (.inl 0))) h1 := fun q => same _ (by rw [es, if_pos q])
  obtain ⟨a1, a2, a3, a4⟩ := M1.alv i1 (by omega)
  obtain ⟨p1, p2, p3, p4⟩ := M1.aot i1 (by omega)
  obtain ⟨s1, s2, s3, s4⟩ := M1.ana i1 hu hN
  have wl := F.lv i
  have wo : ot S i < i ∨ ot S i = 0 := F.2.2.2.2.2.2.2.2.2.2.2.2.1 i
  have el : nI (lv S i) = 1 ↔ lv S i = 1 := nI_eq (b := 1) (by omega) (by decide)
  rw [a4, p4, s4, el, nam1 (F.2.2.2.2.2.2.2.2.2.2.1 i), lt0 (by omega)]
  refine ⟨a1, a2, a3, fun y => no (Or.inl y), fun y => ⟨s1, s2, s3, fun y2 => no (Or.inr (Or.inl y2)), fun y2 => ⟨p1, p2, p3, fun y3 => no (Or.inr (Or.inr (Or.inl (by omega)))), fun y3 => m_isRedefined M1 W i1 (by omega) ?_⟩⟩⟩
  rw [jki_i, jb_0]
  refine ⟨fun y4 => ⟨M1.t, s1, s2, s3, ?_⟩, fun y4 => no (Or.inr (Or.inr (Or.inr (of_decide_eq_true (by simpa using y4)))))⟩
  have rd0 : rd S i = 0 := Decidable.not_not.mp (of_decide_eq_false y4)
  rw [if_neg (by omega)] at es
  intro h2 x2 h3 x3
  have r17 : jr h1 530 m = some (m + 17) := (M1.p 17 (by decide) (by decide)).1
  rw [r17, jd_s, nI_clamp (by omega)] at x2
  have ff : FMb m h1 h3 := (FMb.sI x2 (by decide) (by decide)).trans (FMb.si x3 (by decide))
  have R : ∀ c x, jI h3 c x = if c = m + 17 ∧ x = i then v else jI h1 c x := fun c x => by rw [x3, jI_si, x2, jI_sI]
  have := hQ h3 ?_ (f1.trans ff)
  · rw [es] at this; exact this
  · rw [es]
    show RM h3 (sset S 16 i (v.toInt.toNat + 1)) m
    refine M1.st ff rfl rfl ?_ (fun k z1 z2 => ?_) rfl rfl (fun j x y1 y2 y3 y4 => ?_) (fun x y1 y2 => ?_) (fun x k y1 y2 y3 => ?_)
    · rw [x3, ji_si, if_pos ⟨rfl, rfl⟩]
    · rw [x3, ji_si, if_neg (by omega), x2, ji_sI]
    · rw [R, if_neg (by omega), M1.row y1 y2 y3 y4, mV_big (by decide) y2]
    · rw [R]
      have en : na (sset S 16 i (v.toInt.toNat + 1)) x = if x = i then v.toInt.toNat + 1 else na S x := by
        show (if 16 = 16 ∧ x = i then _ else if 16 = 17 then 0 else S.1 16 x) = _
        by_cases q : x = i
        · rw [if_pos ⟨rfl, q⟩, if_pos q]
        · rw [if_neg (fun z => q z.2), if_neg q]; rfl
      rw [en]
      by_cases q : x = i
      · rw [if_pos ⟨rfl, q⟩, if_pos q, nI_pred]
        exact nI_of0 (by omega)
      · rw [if_neg (fun z => q z.2), if_neg q]; exact M1.2.2.2.2.2.2.1 x y1 y2
    · rw [R, R, if_neg (by omega), if_neg (by omega)]
      exact M1.2.2.2.2.2.2.2.1 x k y1 y2 y3
theorem m_depending (M : RM h S m) (W : WA S) {u v : Int32} (hQ : ∀ h', RM h' (sdep S u v).2 m → FMb m h h' → Q (.inl (some (.inl (sdep S u v).1))) h') : jM g mX10_depending [.inr (.inr (some m)), .inl u, .inl v] h 0 0 Q := by
  have hN := W.n
  have F := W.1
  refine eX10_depending ⟨M.t, ?_⟩
  intro h1 e1
  have M1 : RM h1 S m := by rw [e1]; exact M.th
  have f1 : FMb m h h1 := FMb.si e1 (by decide)
  have same : ∀ r : Int32, sdep S u v = (r, S) → Q (.inl (some (.inl r))) h1 := fun r e => by
    have := hQ h1 (by rw [e]; exact M1) f1
    rw [e] at this; exact this
  have hu := fnd_le S u hN
  refine m_is M1 hN ?_
  rw [jki_i, jb_0]
  refine ⟨fun c => ?_, fun c => same _ (if_pos (Decidable.not_not.mp (of_decide_eq_false c)))⟩
  have u0 : ¬ fnd S u = 0 := of_decide_eq_true (by simpa using c)
  have eu := fnd_eq hN u0
  have es : sdep S u v = if ¬ tb S (fnd S u) = 2 then (-4, S) else if v.toInt < le S (fnd S u) ∨ (mo S (fnd S u) : Int) < v.toInt then (0, S) else (1, snw S (fnd S u) v.toInt.toNat) := if_neg u0
  rw [eu]
  generalize hi : fnd S u = i at *
  have i1 : 1 ≤ i := by omega
  obtain ⟨a1, a2, a3, a4⟩ := M1.atb i1 (by omega)
  obtain ⟨b1, b2, b3, b4⟩ := M1.ale i1 (by omega)
  obtain ⟨c1, c2, c3, c4⟩ := M1.amo i1 (by omega)
  obtain ⟨d1, d2, d3, d4⟩ := M1.anw i1 (by omega)
  have wt := F.2.2.2.2.2.1 i
  have wm := F.2.2.2.2.2.2.1 i
  have wle : le S i ≤ mo S i := F.2.2.2.2.2.2.2.2.1 i
  have z2 : nI (tb S i) = 2 ↔ tb S i = 2 := nI_eq (b := 2) (by omega) (by decide)
  have zl : v < nI (le S i) ↔ v.toInt < le S i := by rw [Int32.lt_iff_toInt_lt, nI_toInt (by omega)]
  have zm : v ≤ nI (mo S i) ↔ v.toInt ≤ mo S i := by rw [Int32.le_iff_toInt_le, nI_toInt (by omega)]
  refine ⟨M1.t, a1, a2, a3, ?_⟩
  rw [a4, b4, c4, z2, zl, zm]
  refine ⟨fun w => ⟨b1, b2, b3, fun w2 => same _ ?_, fun w2 => ⟨c1, c2, c3, fun w3 => ⟨d1, d2, d3, ?_⟩, fun w3 => same _ ?_⟩⟩, fun w => same _ (by rw [es, if_pos w])⟩
  · rw [es, if_neg (by omega), if_pos (Or.inl w2)]
  · rw [if_neg (by omega), if_neg (by omega)] at es
    intro h2 x2
    have r9 : jr h1 522 m = some (m + 9) := (M1.p 9 (by decide) (by decide)).1
    rw [r9, jd_s, nI_clamp (by omega)] at x2
    have ff : FMb m h1 h2 := FMb.sI x2 (by decide) (by decide)
    have R : ∀ c x, jI h2 c x = if c = m + 9 ∧ x = i then v else jI h1 c x := fun c x => by rw [x2, jI_sI]
    have K : ji h2 = ji h1 := by rw [x2]; rfl
    have Lj : jL h2 = jL h1 := by rw [x2]; rfl
    have := hQ h2 ?_ (f1.trans ff)
    · rw [es] at this; exact this
    · rw [es]
      show RM h2 (snw S i v.toInt.toNat) m
      obtain ⟨m1, m2, m3, m4, m5, m6, m7, m8, m9⟩ := M1
      refine ⟨m1.fm ff, by rw [K]; exact m2, by rw [K]; exact m3, by rw [K]; exact m4, by rw [K]; exact m5, fun j x y1 y2 y3 y4 => ?_, fun x y1 y2 => ?_, fun x k y1 y2 y3 => ?_, fun hl => ?_⟩
      · rw [R, m6 j x y1 y2 y3 y4]
        unfold mV
        by_cases j12 : j = 12
        · rw [if_pos j12, if_pos j12, if_neg (by omega)]; rfl
        · rw [if_neg j12, if_neg j12]
          have ea : (snw S i v.toInt.toNat).1 (if j ≤ 11 then j else j - 1) x = if j = 9 ∧ x = i then v.toInt.toNat else S.1 (if j ≤ 11 then j else j - 1) x := by
            show (if (if j ≤ 11 then j else j - 1) = 9 ∧ x = i then v.toInt.toNat else S.1 (if j ≤ 11 then j else j - 1) x) = _
            have ej : (if j ≤ 11 then j else j - 1) = 9 ↔ j = 9 := by split <;> omega
            by_cases z : j = 9 ∧ x = i
            · rw [if_pos ⟨ej.mpr z.1, z.2⟩, if_pos z]
            · rw [if_neg (fun z2 => z ⟨ej.mp z2.1, z2.2⟩), if_neg z]
          rw [ea]
          by_cases z : j = 9 ∧ x = i
          · rw [if_pos ⟨by rw [z.1], z.2⟩, if_pos z]; exact nI_of0 (by omega)
          · rw [if_neg (fun z2 => z ⟨by omega, z2.2⟩), if_neg z]
      · rw [R, if_neg (by omega)]; exact m7 x y1 y2
      · rw [R, R, if_neg (by omega), if_neg (by omega)]; exact m8 x k y1 y2 y3
      · obtain ⟨n1, n2, n3, n4⟩ := m9 hl
        refine ⟨by rw [K]; exact n1, by rw [K]; exact n2, fun k hk => ?_, ?_⟩
        · rw [R, if_neg (by omega)]; exact n3 k hk
        · rw [Lj]; exact n4
  · rw [es, if_neg (by omega), if_pos (Or.inr (by omega))]
theorem m_checks (M : RM h S m) {v : Bool} (hQ : ∀ h', RM h' (schk S v).2 m → FMb m h h' → Q (.inl (some (.inl (schk S v).1))) h') : jM g mX10_checks [.inr (.inr (some m)), .inl (jb v)] h 0 0 Q := by
  refine eX10_checks ⟨M.t, ?_⟩
  intro h1 e1
  have M1 : RM h1 S m := by rw [e1]; exact M.th
  refine ⟨jb_01 v, ?_⟩
  intro h2 e2
  have f2 : FMb m h h2 := (FMb.si e1 (by decide)).trans (FMb.si e2 (by decide))
  have e5 : ji h2 535 m = nI (looked S) := by rw [e2, ji_si, if_neg (by omega)]; exact M1.2.2.2.2.1
  rw [e5]
  refine hQ h2 ?_ f2
  obtain ⟨m1, m2, m3, m4, m5, m6, m7, m8, m9⟩ := M1
  have r534 : ji h2 534 m = nI (if v then 1 else 0) := by
    rw [e2, ji_si, if_pos ⟨rfl, rfl⟩]
    cases v <;> rfl
  subst e2
  refine ⟨m1, m2, m3, r534, m5, fun j x y1 y2 y3 y4 => ?_, m7, m8, m9⟩
  rw [jI_si, m6 j x y1 y2 y3 y4]
  unfold mV
  by_cases j12 : j = 12
  · rw [if_pos j12, if_pos j12]; rfl
  · rw [if_neg j12, if_neg j12]
    congr 1
    have hb : ∀ b, b ≤ 15 → (slk S (if v then 1 else 0)).1 b x = S.1 b x := fun b hb => by
      show (if b = 18 ∧ x = 0 then _ else S.1 b x) = _
      rw [if_neg (by omega)]
    exact (hb _ (by split <;> omega)).symm
end Mod8
