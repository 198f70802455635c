/-! the reference: clause -/
section Mod6
variable {g : jg} {h h' : jh} {S S' : sg} {m : Nat} {Q : jq}
theorem jsi_sI_two {k a c i : Nat} {v v' w : Int32} : jsi (jsI (jsi h k a v) c i w) k a v' = jsi (jsI h c i w) k a v' := by
  obtain ⟨z, t, i', l, r, n, I, L, R⟩ := h
  have : (fun k' a' => if k' = k ∧ a' = a then v' else ji (jsI (jsi (z, t, i', l, r, n, I, L, R) k a v) c i w) k' a') = (fun k' a' => if k' = k ∧ a' = a then v' else ji (jsI (z, t, i', l, r, n, I, L, R) c i w) k' a') := by
    funext k' a'
    by_cases q : k' = k ∧ a' = a
    · rw [if_pos q, if_pos q]
    · rw [if_neg q, if_neg q, ji_sI, ji_sI, ji_si, if_neg q]
  exact congrArg (fun y => (z, t, y, l, r, n, (fun a' x => if a' = c ∧ x = i then w else I a' x), L, R)) this
theorem stab_eq {i t a n : Nat} : stab S i t a n = sset (sset (sset (sset S 6 i t) 7 i a) 8 i n) 9 i n := by
  unfold stab sset
  refine Prod.ext ?_ rfl
  funext k j
  show (if k = 6 ∧ j = i then t else if k = 7 ∧ j = i then a else if k = 8 ∧ j = i then n else if k = 9 ∧ j = i then n else if k = 17 then 0 else S.1 k j) = (if k = 9 ∧ j = i then n else if k = 17 then 0 else if k = 8 ∧ j = i then n else if k = 17 then 0 else if k = 7 ∧ j = i then a else if k = 17 then 0 else if k = 6 ∧ j = i then t else if k = 17 then 0 else S.1 k j)
  by_cases q : j = i
  · by_cases k6 : k = 6
    · subst k6; simp [q]
    · by_cases k7 : k = 7
      · subst k7; simp [q]
      · by_cases k8 : k = 8
        · subst k8; simp [q]
        · by_cases k9 : k = 9
          · subst k9; simp [q]
          · simp only [k6, k7, k8, k9, false_and, if_false]
            split <;> rfl
  · simp only [q, and_false, if_false]
    split <;> rfl
/-- the clause is told -/
theorem m_tell (M : RM h S m) (W : WA S) {i : Nat} {k a b : Int32} (i1 : 1 ≤ i) (i2 : i ≤ sN S) (ok : okC k.toInt a.toInt b.toInt = true) (h5 : k = 5 → a = nI (fnd S a) ∧ b = nI (fnd S b)) {may : Bool} (hm : may = (stell S i k a b).isSome) (hQ0 : stell S i k a b = none → Q (.inl (some (.inl 0))) h) (hQ1 : ∀ S', stell S i k a b = some S' → ∀ h', RM h' S' m → FMb m h h' → Q (.inl (some (.inl 1))) h') : VX10_clause_304 g m (nI i) k a b (jb may) h 0 0 Q := by
  have hN := W.n
  have F := W.1
  have okc := of_decide_eq_true ok
  unfold VX10_clause_304
  rw [jb_0]
  have no : may = false → stell S i k a b = none := fun c => by
    rw [hm] at c
    cases q : stell S i k a b with
    | none => rfl
    | some S' => rw [q] at c; cases c
  refine ⟨fun c => ?_, fun c => hQ0 (no c)⟩
  have hs : ∃ S', stell S i k a b = some S' := by
    have : may = true := by simpa using c
    rw [hm] at this
    exact Option.isSome_iff_exists.mp this
  obtain ⟨S', hs⟩ := hs
  have hQ1 := hQ1 S' hs
  have pp : ∀ {hh : jh}, RA hh m → ∀ j, 1 ≤ j → j ≤ 27 → jr hh (mK j) m = some (m + j) ∧ jt hh (m + j) = mT j ∧ jn hh (m + j) = mN j := fun {hh} q => q.2
  have vin : vp_in (nI i) 121 := vp_in_nI (by omega) (by decide)
  have ncl : (nI i).toNatClampNeg = i := nI_clamp (by omega)
  have e2 : (2 : Int32) ≤ k ↔ 2 ≤ k.toInt := by rw [Int32.le_iff_toInt_le]; rfl
  have q2 : k = 2 ↔ k.toInt = 2 := by rw [← Int32.toInt_inj]; rfl
  have q3 : k = 3 ↔ k.toInt = 3 := by rw [← Int32.toInt_inj]; rfl
  have q4 : k = 4 ↔ k.toInt = 4 := by rw [← Int32.toInt_inj]; rfl
  have q0 : k = 0 ↔ k.toInt = 0 := by rw [← Int32.toInt_inj]; rfl
  have q1 : k = 1 ↔ k.toInt = 1 := by rw [← Int32.toInt_inj]; rfl
  have q5 : k = 5 ↔ k.toInt = 5 := by rw [← Int32.toInt_inj]; rfl
  rw [e2]
  unfold stell at hs
  refine ⟨fun c2 => ⟨fun n2 => ⟨fun n3 => ⟨fun n4 => ?_, fun y4 => ?_⟩, fun y3 => ?_⟩, fun y2 => ?_⟩, fun c2 => ?_⟩
  · -- parts
    have k5 : k = 5 := q5.mpr (by
      rw [q2] at n2; rw [q3] at n3; rw [q4] at n4; omega)
    obtain ⟨ea, eb⟩ := h5 k5
    rw [if_neg (by rw [q0]; omega), if_neg (by rw [q1]; omega), if_neg n2, if_neg n3, if_neg n4] at hs
    by_cases okp : okPt S i (fnd S a) (fnd S b) = true
    · rw [if_pos okp] at hs
      have es := Option.some.inj hs
      obtain ⟨p1, p2, p3⟩ := pp M.1 14 (by decide) (by decide)
      have r1 : jr h 527 m = some (m + 14) := p1
      have t1 : jt h (m + 14) = 20 := p2
      have s1 : jn h (m + 14) = 121 := p3
      refine ⟨M.t, ?_⟩
      rw [r1, jd_s, s1, ncl]
      refine ⟨jsn, t1, vin, ?_⟩
      intro h1 x1
      obtain ⟨M1, F1⟩ := M.s1 (j := 14) (a := 13) (v := fnd S a) (h' := jsi h1 533 m 0) (by decide) (by decide) (by decide) rfl (by omega) ea x1 (by decide) rfl
      have A1 : RA h1 m := M.1.fm (FMb.sI x1 (by decide) (by decide))
      obtain ⟨p1, p2, p3⟩ := pp A1 15 (by decide) (by decide)
      have r2 : jr h1 528 m = some (m + 15) := p1
      have t2 : jt h1 (m + 15) = 20 := p2
      have s2 : jn h1 (m + 15) = 121 := p3
      rw [r2, jd_s, s2]
      refine ⟨jsn, t2, vin, ?_⟩
      intro h2 x2 h3 x3
      obtain ⟨M2, F2⟩ := M1.s1 (j := 15) (a := 14) (v := fnd S b) (h1 := jsI (jsi h1 533 m 0) (m + 15) i b) (h' := h3) (by decide) (by decide) (by decide) rfl (by omega) eb rfl (by decide) (by rw [jsi_sI_two, ← x2]; exact x3)
      rw [← es] at hQ1
      exact hQ1 h3 M2 (F1.trans F2)
    · rw [if_neg okp] at hs; cases hs
  · -- ranges
    rw [if_neg (by rw [q0]; omega), if_neg (by rw [q1]; omega), if_neg n2, if_neg n3, if_pos y4] at hs
    by_cases okr : lv S i = 88 ∧ rg S i < 8
    · rw [if_pos okr] at hs
      have es := Option.some.inj hs
      obtain ⟨p1, p2, p3, p4⟩ := M.arg i1 (by omega)
      obtain ⟨o1, o2, o3⟩ := pp M.1 18 (by decide) (by decide)
      have r18 : jr h 531 m = some (m + 18) := o1
      have t18 : jt h (m + 18) = 20 := o2
      have s18 : jn h (m + 18) = 968 := o3
      have ei : nI 8 * nI i - nI 8 + nI (rg S i) = nI (8 * i - 8 + rg S i) := by rw [pk_mul, pk_sub (by omega), nI_add]
      have vi2 : vp_in (nI (8 * i - 8 + rg S i)) 968 := vp_in_nI (by omega) (by decide)
      have nc2 : (nI (8 * i - 8 + rg S i)).toNatClampNeg = 8 * i - 8 + rg S i := nI_clamp (by omega)
      refine ⟨M.t, p1, p2, p3, ?_⟩
      rw [p4, r18, jd_s, s18, show (8 : Int32) = nI 8 from rfl, ei, nc2]
      refine ⟨jsn, t18, vi2, ?_⟩
      intro h1 x1
      have f1 : FMb m h h1 := FMb.sI x1 (by decide) (by decide)
      have A1 := M.1.fm f1
      obtain ⟨o1, o2, o3⟩ := pp A1 13 (by decide) (by decide)
      have r13 : jr h1 526 m = some (m + 13) := o1
      have t13 : jt h1 (m + 13) = 20 := o2
      have s13 : jn h1 (m + 13) = 121 := o3
      have g13 : jI h1 (m + 13) i = nI (rg S i) := by
        rw [x1, jI_sI, if_neg (by omega)]
        exact M.row (j := 13) (by decide) (by decide) i1 (by omega)
      obtain ⟨o1, o2, o3⟩ := pp A1 19 (by decide) (by decide)
      have r19 : jr h1 532 m = some (m + 19) := o1
      have t19 : jt h1 (m + 19) = 20 := o2
      have s19 : jn h1 (m + 19) = 968 := o3
      rw [r13, jd_s, s13, r19, jd_s, s19, ncl, g13, ei, nc2]
      refine ⟨jsn, t13, vin, jsn, t19, vi2, ?_⟩
      intro h2 x2
      have f2 : FMb m h1 h2 := FMb.sI x2 (by decide) (by decide)
      have A2 := A1.fm f2
      obtain ⟨o1, o2, o3⟩ := pp A2 13 (by decide) (by decide)
      have r13' : jr h2 526 m = some (m + 13) := o1
      have t13' : jt h2 (m + 13) = 20 := o2
      have s13' : jn h2 (m + 13) = 121 := o3
      have g13' : jI h2 (m + 13) i = nI (rg S i) := by rw [x2, jI_sI, if_neg (by omega)]; exact g13
      rw [r13', jd_s, s13', g13', nI_1]
      refine ⟨jsn, t13', vin, ?_⟩
      intro h3 x3 h4 x4
      have ff : FMb m h h4 := ((f1.trans f2).trans (FMb.sI x3 (by decide) (by decide))).trans (FMb.si x4 (by decide))
      have R : ∀ c x, jI h4 c x = if c = m + 13 ∧ x = i then nI (rg S i + 1) else if c = m + 19 ∧ x = 8 * i - 8 + rg S i then b else if c = m + 18 ∧ x = 8 * i - 8 + rg S i then a else jI h c x := fun c x => by rw [x4, jI_si, x3, jI_sI, x2, jI_sI, x1, jI_sI]
      rw [← es] at hQ1
      refine hQ1 h4 (M.st ff rfl rfl ?_ (fun k' z1 z2 => ?_) rfl rfl (fun j x y1 y2 y3 y4 => ?_) (fun x y1 y2 => ?_) (fun x k' y1 y2 y3 => ?_)) ff
      · rw [x4, ji_si, if_pos ⟨rfl, rfl⟩]
      · rw [x4, ji_si, if_neg (by omega), x3, ji_sI, x2, ji_sI, x1, ji_sI]
      · rw [R]
        have old := M.row y1 y2 y3 y4
        unfold mV at old ⊢
        by_cases j12 : j = 12
        · rw [if_pos j12] at old ⊢
          rw [if_neg (by omega), if_neg (by omega), if_neg (by omega), old]
          show _ = (if 0 = 1 + rg S i ∧ x = i then a else if 0 = 11 + rg S i ∧ x = i then b else S.2 0 x)
          rw [if_neg (by omega), if_neg (by omega)]; rfl
        · rw [if_neg j12] at old ⊢
          have ev : (srg S i a b).1 (if j ≤ 11 then j else j - 1) x = if j = 13 ∧ x = i then rg S i + 1 else S.1 (if j ≤ 11 then j else j - 1) x := by
            show (if (if j ≤ 11 then j else j - 1) = 12 ∧ x = i then rg S i + 1 else if (if j ≤ 11 then j else j - 1) = 17 then 0 else S.1 (if j ≤ 11 then j else j - 1) x) = _
            have ej : (if j ≤ 11 then j else j - 1) = 12 ↔ j = 13 := by split <;> omega
            by_cases z : j = 13 ∧ x = i
            · rw [if_pos ⟨ej.mpr z.1, z.2⟩, if_pos z]
            · rw [if_neg (fun z2 => z ⟨ej.mp z2.1, z2.2⟩), if_neg z, if_neg (by split <;> omega)]
          rw [ev]
          by_cases z : j = 13 ∧ x = i
          · rw [if_pos ⟨by rw [z.1], z.2⟩, if_pos z]
          · rw [if_neg (fun z2 => z ⟨by omega, z2.2⟩), if_neg z, if_neg (by omega), if_neg (by omega)]; exact old
      · rw [R, if_neg (by omega), if_neg (by omega), if_neg (by omega)]
        exact M.2.2.2.2.2.2.1 x y1 y2
      · have R18 : ∀ y, jI h4 (m + 18) y = if y = 8 * i - 8 + rg S i then a else jI h (m + 18) y := fun y => by
          rw [R, if_neg (by omega), if_neg (by omega)]
          by_cases z : y = 8 * i - 8 + rg S i
          · rw [if_pos ⟨rfl, z⟩, if_pos z]
          · rw [if_neg (fun w => z w.2), if_neg z]
        have R19 : ∀ y, jI h4 (m + 19) y = if y = 8 * i - 8 + rg S i then b else jI h (m + 19) y := fun y => by
          rw [R, if_neg (by omega)]
          by_cases z : y = 8 * i - 8 + rg S i
          · rw [if_pos ⟨rfl, z⟩, if_pos z]
          · rw [if_neg (fun w => z w.2), if_neg z, if_neg (by omega)]
        rw [R18, R19]
        have ev : rg (srg S i a b) x = if x = i then rg S i + 1 else rg S x := by
          show (if 12 = 12 ∧ x = i then rg S i + 1 else if 12 = 17 then 0 else S.1 12 x) = _
          by_cases z : x = i
          · rw [if_pos ⟨rfl, z⟩, if_pos z]
          · rw [if_neg (fun w => z w.2), if_neg z]; rfl
        rw [ev] at y3
        have e1 : rf (srg S i a b) k' x = if k' = rg S i ∧ x = i then a else rf S k' x := by
          show (if 1 + k' = 1 + rg S i ∧ x = i then a else if 1 + k' = 11 + rg S i ∧ x = i then b else S.2 (1 + k') x) = _
          by_cases z : k' = rg S i ∧ x = i
          · rw [if_pos (by omega), if_pos z]
          · rw [if_neg (by omega), if_neg z, if_neg]; rfl
            intro z2
            rw [if_pos z2.2] at y3
            omega
        have e2 : rt (srg S i a b) k' x = if k' = rg S i ∧ x = i then b else rt S k' x := by
          show (if 11 + k' = 1 + rg S i ∧ x = i then a else if 11 + k' = 11 + rg S i ∧ x = i then b else S.2 (11 + k') x) = _
          rw [if_neg (by omega)]
          by_cases z : k' = rg S i ∧ x = i
          · rw [if_pos (by omega), if_pos z]
          · rw [if_neg (by omega), if_neg z]; rfl
        rw [e1, e2]
        by_cases z : k' = rg S i ∧ x = i
        · have eq' : 8 * x - 8 + k' = 8 * i - 8 + rg S i := by omega
          rw [if_pos eq', if_pos eq', if_pos z, if_pos z]
          exact ⟨rfl, rfl⟩
        · have hk : k' < rg S x := by
            by_cases w : x = i
            · rw [if_pos w] at y3
              rw [w]; omega
            · rw [if_neg w] at y3; exact y3
          have h8 : rg S x ≤ 8 := F.2.2.2.2.2.2.2.2.2.1 x
          have ne : ¬ 8 * x - 8 + k' = 8 * i - 8 + rg S i := by omega
          rw [if_neg ne, if_neg ne, if_neg z, if_neg z]
          exact M.2.2.2.2.2.2.2.1 x k' y1 y2 hk
    · rw [if_neg okr] at hs; cases hs
  · -- a value
    rw [if_neg (by rw [q0]; omega), if_neg (by rw [q1]; omega), if_neg n2, if_pos y3] at hs
    by_cases okv : okN (us S i) = true ∧ va S i = 0 ∧ aside S i = false ∧ room (dg S i) a.toInt = true
    · rw [if_pos okv] at hs
      have es := Option.some.inj hs
      obtain ⟨o1, o2, o3⟩ := pp M.1 11 (by decide) (by decide)
      have r11 : jr h 524 m = some (m + 11) := o1
      have t11 : jt h (m + 11) = 24 := o2
      have s11 : jn h (m + 11) = 121 := o3
      refine ⟨M.t, ?_⟩
      rw [r11, jd_s, s11, ncl]
      refine ⟨jsn, t11, vin, ?_⟩
      intro h1 x1
      have f1 : FMb m h h1 := FMb.sI x1 (by decide) (by decide)
      obtain ⟨o1, o2, o3⟩ := pp (M.1.fm f1) 12 (by decide) (by decide)
      have r12 : jr h1 525 m = some (m + 12) := o1
      have t12 : jt h1 (m + 12) = 20 := o2
      have s12 : jn h1 (m + 12) = 121 := o3
      rw [r12, jd_s, s12]
      refine ⟨jsn, t12, vin, ?_⟩
      intro h2 x2 h3 x3
      have ff : FMb m h h3 := (f1.trans (FMb.sI x2 (by decide) (by decide))).trans (FMb.si x3 (by decide))
      have R : ∀ c x, jI h3 c x = if c = m + 12 ∧ x = i then a else if c = m + 11 ∧ x = i then 1 else jI h c x := fun c x => by rw [x3, jI_si, x2, jI_sI, x1, jI_sI]
      rw [← es] at hQ1
      refine hQ1 h3 (M.st ff rfl rfl ?_ (fun k' z1 z2 => ?_) rfl rfl (fun j x y1 y2 y3 y4 => ?_) (fun x y1 y2 => ?_) (fun x k' y1 y2 y3 => ?_)) ff
      · rw [x3, ji_si, if_pos ⟨rfl, rfl⟩]
      · rw [x3, ji_si, if_neg (by omega), x2, ji_sI, x1, ji_sI]
      · rw [R]
        have old := M.row y1 y2 y3 y4
        unfold mV at old ⊢
        by_cases j12 : j = 12
        · rw [if_pos j12] at old ⊢
          show _ = (if 0 = 0 ∧ x = i then a else S.2 0 x)
          by_cases z : x = i
          · rw [if_pos ⟨by omega, z⟩, if_pos ⟨rfl, z⟩]
          · rw [if_neg (fun w => z w.2), if_neg (fun w => z w.2), if_neg (fun w => z w.2)]; exact old
        · rw [if_neg j12] at old ⊢
          rw [if_neg (by omega)]
          have ev : (svl (sset S 11 i 1) i a).1 (if j ≤ 11 then j else j - 1) x = if j = 11 ∧ x = i then 1 else S.1 (if j ≤ 11 then j else j - 1) x := by
            show (if (if j ≤ 11 then j else j - 1) = 11 ∧ x = i then 1 else if (if j ≤ 11 then j else j - 1) = 17 then 0 else S.1 (if j ≤ 11 then j else j - 1) x) = _
            have ej : (if j ≤ 11 then j else j - 1) = 11 ↔ j = 11 := by split <;> omega
            by_cases z : j = 11 ∧ x = i
            · rw [if_pos ⟨ej.mpr z.1, z.2⟩, if_pos z]
            · rw [if_neg (fun z2 => z ⟨ej.mp z2.1, z2.2⟩), if_neg z, if_neg (by split <;> omega)]
          rw [ev]
          by_cases z : j = 11 ∧ x = i
          · rw [if_pos ⟨by rw [z.1], z.2⟩, if_pos z]; rfl
          · rw [if_neg (fun z2 => z ⟨by omega, z2.2⟩), if_neg z]; exact old
      · rw [R, if_neg (by omega), if_neg (by omega)]
        exact M.2.2.2.2.2.2.1 x y1 y2
      · rw [R, R, if_neg (by omega), if_neg (by omega), if_neg (by omega), if_neg (by omega)]
        have e1 : rf (svl (sset S 11 i 1) i a) k' x = rf S k' x := by
          show (if 1 + k' = 0 ∧ x = i then a else S.2 (1 + k') x) = _
          rw [if_neg (by omega)]; rfl
        have e2 : rt (svl (sset S 11 i 1) i a) k' x = rt S k' x := by
          show (if 11 + k' = 0 ∧ x = i then a else S.2 (11 + k') x) = _
          rw [if_neg (by omega)]; rfl
        rw [e1, e2]
        exact M.2.2.2.2.2.2.2.1 x k' y1 y2 y3
    · rw [if_neg okv] at hs; cases hs
  · -- synchronised
    rw [if_neg (by rw [q0]; omega), if_neg (by rw [q1]; omega), if_pos y2] at hs
    by_cases oks : 8 ≤ us S i ∧ us S i ≤ 11 ∧ sy S i = 0
    · rw [if_pos oks] at hs
      have es := Option.some.inj hs
      obtain ⟨o1, o2, o3⟩ := pp M.1 10 (by decide) (by decide)
      have r10 : jr h 523 m = some (m + 10) := o1
      have t10 : jt h (m + 10) = 24 := o2
      have s10 : jn h (m + 10) = 121 := o3
      refine ⟨M.t, ?_⟩
      rw [r10, jd_s, s10, ncl]
      refine ⟨jsn, t10, vin, ?_⟩
      intro h1 x1 h2 x2
      obtain ⟨M1, F1⟩ := M.s1 (j := 10) (a := 10) (v := 1) (h' := h2) (by decide) (by decide) (by decide) rfl (by omega) rfl x1 (by decide) x2
      rw [← es] at hQ1
      exact hQ1 h2 M1 F1
    · rw [if_neg oks] at hs; cases hs
  · -- tables
    obtain ⟨t, ap, n, ht, hap, hn, hst, hkt⟩ : ∃ t ap n : Nat, k + 1 = nI t ∧ a = nI ap ∧ (if k = 0 then a else b) = nI n ∧ S' = stab S i t ap n ∧ (k = 0 ∨ k = 1) := by
      by_cases k0 : k = 0
      · rw [if_pos k0] at hs
        have kz := q0.mp k0
        by_cases okt : okT S i false = true
        · rw [if_pos okt] at hs
          exact ⟨1, a.toInt.toNat, a.toInt.toNat, by rw [k0]; rfl, nI_of0 (by omega), by rw [if_pos k0]; exact nI_of0 (by omega), (Option.some.inj hs).symm, Or.inl k0⟩
        · rw [if_neg okt] at hs; cases hs
      · rw [if_neg k0] at hs
        have k1 : k = 1 := q1.mpr (by rw [q0] at k0; omega)
        rw [if_pos k1] at hs
        have kz := q1.mp k1
        by_cases okt : okT S i true = true
        · rw [if_pos okt] at hs
          exact ⟨2, a.toInt.toNat, b.toInt.toNat, by rw [k1]; rfl, nI_of0 (by omega), by rw [if_neg k0]; exact nI_of0 (by omega), (Option.some.inj hs).symm, Or.inr k1⟩
        · rw [if_neg okt] at hs; cases hs
    rw [hst, stab_eq] at hQ1
    obtain ⟨o1, o2, o3⟩ := pp M.1 6 (by decide) (by decide)
    have r6 : jr h 519 m = some (m + 6) := o1
    have t6 : jt h (m + 6) = 20 := o2
    have s6 : jn h (m + 6) = 121 := o3
    refine ⟨M.t, ?_⟩
    rw [r6, jd_s, s6, ncl]
    refine ⟨jsn, t6, vin, ?_⟩
    intro h1 x1
    obtain ⟨M1, F1⟩ := M.s1 (j := 6) (a := 6) (v := t) (h' := jsi h1 533 m 0) (by decide) (by decide) (by decide) rfl (by omega) ht x1 (by decide) rfl
    have A1 : RA h1 m := M.1.fm (FMb.sI x1 (by decide) (by decide))
    obtain ⟨o1, o2, o3⟩ := pp A1 7 (by decide) (by decide)
    have r7 : jr h1 520 m = some (m + 7) := o1
    have t7 : jt h1 (m + 7) = 20 := o2
    have s7 : jn h1 (m + 7) = 121 := o3
    rw [r7, jd_s, s7]
    refine ⟨jsn, t7, vin, ?_⟩
    intro h2 x2
    obtain ⟨M2, F2⟩ := M1.s1 (j := 7) (a := 7) (v := ap) (h1 := jsI (jsi h1 533 m 0) (m + 7) i a) (h' := jsi h2 533 m 0) (by decide) (by decide) (by decide) rfl (by omega) hap rfl (by decide) (by rw [jsi_sI_two, ← x2])
    have A2 : RA h2 m := A1.fm (FMb.sI x2 (by decide) (by decide))
    have fin : ∀ v : Int32, v = nI n → VX10_clause_347 g m (nI i) (some (m + 8)) (nI i) v h2 0 0 Q := by
      intro v hv
      obtain ⟨o1, o2, o3⟩ := pp A2 8 (by decide) (by decide)
      have t8 : jt h2 (m + 8) = 20 := o2
      have s8 : jn h2 (m + 8) = 121 := o3
      refine ⟨jsn, t8, ?_⟩
      rw [jd_s, s8, ncl]
      refine ⟨vin, ?_⟩
      intro h3 x3
      obtain ⟨M3, F3⟩ := M2.s1 (j := 8) (a := 8) (v := n) (h1 := jsI (jsi h2 533 m 0) (m + 8) i v) (h' := jsi h3 533 m 0) (by decide) (by decide) (by decide) rfl (by omega) hv rfl (by decide) (by rw [jsi_sI_two, ← x3])
      have A3 : RA h3 m := A2.fm (FMb.sI x3 (by decide) (by decide))
      obtain ⟨o1, o2, o3⟩ := pp A3 8 (by decide) (by decide)
      have r8' : jr h3 521 m = some (m + 8) := o1
      have t8' : jt h3 (m + 8) = 20 := o2
      have s8' : jn h3 (m + 8) = 121 := o3
      obtain ⟨o1, o2, o3⟩ := pp A3 9 (by decide) (by decide)
      have r9 : jr h3 522 m = some (m + 9) := o1
      have t9 : jt h3 (m + 9) = 20 := o2
      have s9 : jn h3 (m + 9) = 121 := o3
      have v8 : jI h3 (m + 8) i = v := by rw [x3, jI_sI, if_pos ⟨rfl, rfl⟩]
      refine ⟨A3.1, ?_⟩
      rw [r8', jd_s, s8', r9, jd_s, s9, v8]
      refine ⟨jsn, t8', vin, jsn, t9, vin, ?_⟩
      intro h4 x4 h5' x5
      obtain ⟨M4, F4⟩ := M3.s1 (j := 9) (a := 9) (v := n) (h1 := jsI (jsi h3 533 m 0) (m + 9) i v) (h' := h5') (by decide) (by decide) (by decide) rfl (by omega) hv rfl (by decide) (by rw [jsi_sI_two, ← x4]; exact x5)
      exact hQ1 h5' M4 (((F1.trans F2).trans F3).trans F4)
    obtain ⟨o1, -, -⟩ := pp A2 8 (by decide) (by decide)
    have r8 : jr h2 521 m = some (m + 8) := o1
    rw [r8]
    refine ⟨fun z => fin b ?_, fun z => fin a ?_⟩
    · rw [if_neg z] at hn; exact hn
    · rw [if_pos z] at hn; exact hn
end Mod6
