/-! the reference: item -/
section Mod4
variable {g : jg} {h h' : jh} {S : sg} {m : Nat} {Q : jq}
def okS (u s : Int) : Bool := decide ((u = 1 ∧ 1 ≤ s ∧ s ≤ 200) ∨ (u = 2 ∧ 1 ≤ s ∧ s ≤ 100) ∨ (3 ≤ u ∧ u ≤ 8 ∧ 1 ≤ s ∧ s ≤ 18) ∨ (¬ (1 ≤ u ∧ u ≤ 8) ∧ s = 0))
theorem m_isSize {u s : Int32} (hQ : Q (.inl (some (.inl (jb (okS u.toInt s.toInt))))) h) : jM g mX10_isSize [.inl u, .inl s] h 0 0 Q := by
  have h1 := jq_t hQ
  have h0 := jq_f hQ
  refine eX10_isSize ?_
  unfold VX10_isSize_0
  simp only [Int32.lt_iff_toInt_lt, Int32.le_iff_toInt_le, ← Int32.toInt_inj, Int32.reduceToInt]
  have t : okS u.toInt s.toInt = true ↔ _ := decide_eq_true_iff
  have f : okS u.toInt s.toInt = false ↔ _ := decide_eq_false_iff_not
  refine ⟨fun c => ⟨fun c2 => ⟨fun c3 => ⟨fun c4 => h0 (f.mpr (by omega)), fun c4 => h1 (t.mpr (by omega))⟩, fun c3 => ⟨fun c4 => ⟨fun c5 => h0 (f.mpr (by omega)), fun c5 => h1 (t.mpr (by omega))⟩, fun c4 => ⟨fun c5 => h0 (f.mpr (by omega)), fun c5 => ⟨fun c6 => h0 (f.mpr (by omega)), fun c6 => h1 (t.mpr (by omega))⟩⟩⟩⟩, fun c2 => ⟨fun c3 => h0 (f.mpr (by omega)), fun c3 => ⟨fun c4 => h0 (f.mpr (by omega)), fun c4 => h1 (t.mpr (by omega))⟩⟩⟩, fun c => ⟨fun c3 => h0 (f.mpr (by omega)), fun c3 => ⟨fun c4 => h0 (f.mpr (by omega)), fun c4 => h1 (t.mpr (by omega))⟩⟩⟩
theorem RM.th (M : RM h S m) {v : Int32} : RM (jsi h 512 m v) S m := M
theorem nI_of0 {x : Int32} (h : 0 ≤ x.toInt) : x = nI x.toInt.toNat := by
  have := x.toInt_lt
  rw [← Int32.toInt_inj, nI_toInt (by omega)]; omega
/-- the new item's numbers are written -/
theorem m_add (M : RM h S m) (W : WA S) {l u s : Nat} (hN : sN S < 120) (hl : l ≤ 88) (hu : u ≤ 11) (hs : s ≤ 200) (kl : okL l = true) (ku : okU l u s = true) (kp : okP S l = true) (hQ : ∀ h', RM h' (sadd S l u s) m → FMb m h h' → Q (.inl (some (.inl (nI (sN S + 1))))) h') : VX10_item_183 g m (nI l) (nI u) (nI s) (nI (if l = 66 then 0 else aro S l)) h 0 0 Q := by
  have F := W.1
  have A := W.2.1
  have F' := F.add A.wr W.z hN hl hu hs
  have A' := A.add W.z F F' kl ku kp
  have hle := aro_le A.wr (l : Int)
  have ne120 : ¬ nI (sN S) = 120 := fun q => by
    have := (nI_eq (b := 120) (by omega) (by decide)).mp q
    omega
  refine ⟨M.t, ?_⟩
  rw [M.many]
  refine ⟨fun _ => ?_, fun q => absurd q ne120⟩
  rw [nI_1]
  intro h2 e2
  have k2 : ji h2 513 m = nI (sN S + 1) := by rw [e2, ji_si, if_pos ⟨rfl, rfl⟩]
  have A2 : RA h2 m := M.1.fm (FMb.si e2 (by decide))
  have f2 : FMb m h h2 := FMb.si e2 (by decide)
  have pp : ∀ {hh : jh}, RA hh m → (jr hh 514 m = some (m + 1) ∧ jr hh 515 m = some (m + 2) ∧ jr hh 516 m = some (m + 3) ∧ jr hh 517 m = some (m + 4) ∧ jr hh 518 m = some (m + 5) ∧ jr hh 530 m = some (m + 17)) ∧ (jt hh (m + 1) = 20 ∧ jt hh (m + 2) = 20 ∧ jt hh (m + 3) = 20 ∧ jt hh (m + 4) = 20 ∧ jt hh (m + 5) = 20 ∧ jt hh (m + 17) = 20) ∧ (jn hh (m + 1) = 121 ∧ jn hh (m + 2) = 121 ∧ jn hh (m + 3) = 121 ∧ jn hh (m + 4) = 121 ∧ jn hh (m + 5) = 121 ∧ jn hh (m + 17) = 121) := fun {hh} a => ⟨⟨(a.2 1 (by decide) (by decide)).1, (a.2 2 (by decide) (by decide)).1, (a.2 3 (by decide) (by decide)).1, (a.2 4 (by decide) (by decide)).1, (a.2 5 (by decide) (by decide)).1, (a.2 17 (by decide) (by decide)).1⟩, ⟨(a.2 1 (by decide) (by decide)).2.1, (a.2 2 (by decide) (by decide)).2.1, (a.2 3 (by decide) (by decide)).2.1, (a.2 4 (by decide) (by decide)).2.1, (a.2 5 (by decide) (by decide)).2.1, (a.2 17 (by decide) (by decide)).2.1⟩, ⟨(a.2 1 (by decide) (by decide)).2.2, (a.2 2 (by decide) (by decide)).2.2, (a.2 3 (by decide) (by decide)).2.2, (a.2 4 (by decide) (by decide)).2.2, (a.2 5 (by decide) (by decide)).2.2, (a.2 17 (by decide) (by decide)).2.2⟩⟩
  have vin : vp_in (nI (sN S + 1)) 121 := vp_in_nI (by omega) (by decide)
  have ncl : (nI (sN S + 1)).toNatClampNeg = sN S + 1 := nI_clamp (by omega)
  obtain ⟨⟨r1, r2, r3, r4, r5, r6⟩, ⟨t1, t2, t3, t4, t5, t6⟩, ⟨n1, n2, n3, n4, n5, n6⟩⟩ := pp A2
  rw [k2, r1, jd_s, n1, ncl]
  refine ⟨jsn, t1, vin, ?_⟩
  intro h3 e3
  have f3 : FMb m h2 h3 := FMb.sI e3 (by decide) (by decide)
  have A3 := A2.fm f3
  obtain ⟨⟨-, s2, s3, s4, s5, s6⟩, ⟨-, u2, u3, u4, u5, u6⟩, ⟨-, v2, v3, v4, v5, v6⟩⟩ := pp A3
  rw [s2, jd_s, v2]
  refine ⟨jsn, u2, vin, ?_⟩
  intro h4 e4
  have f4 : FMb m h3 h4 := FMb.sI e4 (by decide) (by decide)
  have A4 := A3.fm f4
  obtain ⟨⟨-, -, s3, s4, s5, s6⟩, ⟨-, -, u3, u4, u5, u6⟩, ⟨-, -, v3, v4, v5, v6⟩⟩ := pp A4
  rw [s3, jd_s, v3]
  refine ⟨jsn, u3, vin, ?_⟩
  intro h5 e5
  have f5 : FMb m h4 h5 := FMb.sI e5 (by decide) (by decide)
  have A5 := A4.fm f5
  obtain ⟨⟨-, -, -, s4, s5, s6⟩, ⟨-, -, -, u4, u5, u6⟩, ⟨-, -, -, v4, v5, v6⟩⟩ := pp A5
  rw [s4, jd_s, v4]
  refine ⟨jsn, u4, vin, ?_⟩
  intro h6 e6
  have f6 : FMb m h5 h6 := FMb.sI e6 (by decide) (by decide)
  have A6 := A5.fm f6
  obtain ⟨⟨-, -, -, -, s5, s6⟩, ⟨-, -, -, -, u5, u6⟩, ⟨-, -, -, -, v5, v6⟩⟩ := pp A6
  -- records as they were
  have rc6 : ∀ i, 1 ≤ i → i ≤ 120 → jI h6 (m + 5) i = nI (rc S i) := fun i i1 i2 => by
    rw [e6, jI_sI, if_neg (by omega), e5, jI_sI, if_neg (by omega), e4, jI_sI, if_neg (by omega), e3, jI_sI, if_neg (by omega), e2, jI_si]
    exact M.row (j := 5) (by decide) (by decide) i1 i2
  have h290 : ∀ v : Int32, v = nI (if l = 1 ∨ l = 77 then sN S + 1 else rc S (sN S)) → VX10_item_290 g m (nI (sN S + 1)) (some (m + 5)) (nI (sN S + 1)) v h6 0 0 Q := by
    intro v hv
    refine ⟨jsn, u5, ?_⟩
    rw [jd_s, v5, ncl]
    refine ⟨vin, ?_⟩
    intro h7 e7
    have f7 : FMb m h6 h7 := FMb.sI e7 (by decide) (by decide)
    have A7 := A6.fm f7
    obtain ⟨⟨-, -, -, -, -, s6⟩, ⟨-, -, -, -, -, u6⟩, ⟨-, -, -, -, -, v6⟩⟩ := pp A7
    refine ⟨A7.1, ?_⟩
    rw [s6, jd_s, v6]
    refine ⟨jsn, u6, vin, ?_⟩
    intro h8 e8 h9 e9
    have f8 : FMb m h7 h8 := FMb.sI e8 (by decide) (by decide)
    have f9 : FMb m h8 h9 := FMb.si e9 (by decide)
    have ff : FMb m h h9 := ((((((f2.trans f3).trans f4).trans f5).trans f6).trans f7).trans f8).trans f9
    have R : ∀ c i, jI h9 c i = if c = m + 17 ∧ i = sN S + 1 then -1 else if c = m + 5 ∧ i = sN S + 1 then v else if c = m + 4 ∧ i = sN S + 1 then nI (if l = 66 then 0 else aro S l) else if c = m + 3 ∧ i = sN S + 1 then nI s else if c = m + 2 ∧ i = sN S + 1 then nI u else if c = m + 1 ∧ i = sN S + 1 then nI l else jI h c i := fun c i => by
      rw [e9, jI_si, e8, jI_sI, e7, jI_sI, e6, jI_sI, e5, jI_sI, e4, jI_sI, e3, jI_sI, e2, jI_si]
    have K : ∀ k, k ≠ 533 → k ≠ 513 → ji h9 k m = ji h k m := fun k x1 x2 => by
      rw [e9, ji_si, if_neg (by omega), e8, ji_sI, e7, ji_sI, e6, ji_sI, e5, ji_sI, e4, ji_sI, e3, ji_sI, e2, ji_si, if_neg (by omega)]
    refine hQ h9 ⟨M.1.fm ff, ?_, ?_, ?_, ?_, fun j i j1 j2 i1 i2 => ?_, fun i i1 i2 => ?_, fun i k i1 i2 hk => ?_, fun q => by cases q⟩ ff
    · rw [e9, ji_si, if_neg (by omega), e8, ji_sI, e7, ji_sI, e6, ji_sI, e5, ji_sI, e4, ji_sI, e3, ji_sI]; exact k2
    · rw [e9, ji_si, if_pos ⟨rfl, rfl⟩]; rfl
    · rw [K 534 (by decide) (by decide)]; exact M.2.2.2.1
    · rw [K 535 (by decide) (by decide)]; exact M.2.2.2.2.1
    · rw [R]
      rw [if_neg (by omega)]
      have old := M.row j1 j2 i1 i2
      by_cases e : i = sN S + 1
      · by_cases j5 : j = 5
        · rw [if_pos ⟨by rw [j5], e⟩, hv, j5]
          show _ = nI (rc (sadd S l u s) i)
          rw [sadd_rc, if_pos e]
        · rw [if_neg (by omega)]
          by_cases j4 : j = 4
          · rw [if_pos ⟨by rw [j4], e⟩, j4]
            show _ = nI (pa (sadd S l u s) i)
            rw [sadd_pa, if_pos e]
          · rw [if_neg (by omega)]
            by_cases j3 : j = 3
            · rw [if_pos ⟨by rw [j3], e⟩, j3]
              show _ = nI (dg (sadd S l u s) i)
              rw [sadd_dg, if_pos e]
            · rw [if_neg (by omega)]
              by_cases j22 : j = 2
              · rw [if_pos ⟨by rw [j22], e⟩, j22]
                show _ = nI (us (sadd S l u s) i)
                rw [sadd_us, if_pos e]
              · rw [if_neg (by omega)]
                by_cases j11 : j = 1
                · rw [if_pos ⟨by rw [j11], e⟩, j11]
                  show _ = nI (lv (sadd S l u s) i)
                  rw [sadd_lv, if_pos e]
                · rw [if_neg (by omega), old]
                  unfold mV
                  by_cases j12 : j = 12
                  · rw [if_pos j12, if_pos j12]; rfl
                  · rw [if_neg j12, if_neg j12, sadd_o (by split <;> omega) (by split <;> omega) (by split <;> omega)]
      · rw [if_neg (fun z => e z.2), if_neg (fun z => e z.2), if_neg (fun z => e z.2), if_neg (fun z => e z.2), if_neg (fun z => e z.2), old]
        unfold mV
        by_cases j12 : j = 12
        · rw [if_pos j12, if_pos j12]; rfl
        · rw [if_neg j12, if_neg j12, sadd_keep (by split <;> omega) (by split <;> omega) (by split <;> omega) (fun _ => e)]
    · rw [sadd_N] at i2
      rw [R]
      have en : na (sadd S l u s) i = na S i := sadd_o (by decide) (by decide) (by decide) i
      rw [en]
      by_cases e : i = sN S + 1
      · rw [if_pos ⟨rfl, e⟩]
        have : na S i = 0 := W.z 16 i (by omega) (by decide) (by decide)
        rw [this]; decide
      · rw [if_neg (fun z => e z.2), if_neg (by omega), if_neg (by omega), if_neg (by omega), if_neg (by omega), if_neg (by omega)]
        exact M.2.2.2.2.2.2.1 i i1 (by omega)
    · have eg : rg (sadd S l u s) i = rg S i := sadd_o (by decide) (by decide) (by decide) i
      rw [eg] at hk
      rw [R, R, if_neg (by omega), if_neg (by omega), if_neg (by omega), if_neg (by omega), if_neg (by omega), if_neg (by omega), if_neg (by omega), if_neg (by omega), if_neg (by omega), if_neg (by omega), if_neg (by omega), if_neg (by omega)]
      exact M.2.2.2.2.2.2.2.1 i k i1 i2 hk
  have zl : ∀ k : Nat, k < 1000 → (nI l = nI k ↔ l = k) := fun k hk => nI_eq (by omega) (by omega)
  have z1 : nI l = 1 ↔ l = 1 := zl 1 (by decide)
  have z77 : nI l = 77 ↔ l = 77 := zl 77 (by decide)
  have z88 : nI l = 88 ↔ l = 88 := zl 88 (by decide)
  have e1 : nI (sN S + 1) - 1 = nI (sN S) := nI_pred (sN S)
  rw [s5, jd_s, v5, z1, z77, z88, e1]
  refine ⟨fun q => h290 _ (by rw [if_pos (Or.inl q)]), fun q => ⟨fun q2 => ⟨fun q3 => ⟨jsn, u5, ?_, ?_⟩, fun q3 => ⟨jsn, u5, ?_, ?_⟩⟩, fun q2 => h290 _ (by rw [if_pos (Or.inr q2)])⟩⟩
  · exact vp_in_nI (by omega) (by decide)
  · have n0 := okP_ne kp q q2
    refine h290 _ ?_
    rw [nI_clamp (by omega), rc6 _ (by omega) (by omega), if_neg (by omega)]
  · rw [if_neg (by omega)]
    exact vp_in_nI (by omega) (by decide)
  · have n0 := okP_ne kp q q2
    refine h290 _ ?_
    rw [if_neg (by omega), nI_clamp (by omega), rc6 _ (by omega) (by omega), if_neg (by omega)]
    have a5 := ((A' (sN S + 1) (by omega) (Nat.le_refl _)).2.2.2.2.1 (by rw [sadd_lv, if_pos rfl]; exact q3)).2.2.2
    rw [sadd_pa, if_pos rfl, if_neg (by omega), sadd_rc, if_neg (by omega), sadd_rc, if_pos rfl, if_neg (by omega)] at a5
    rw [a5]
theorem m_item (M : RM h S m) (W : WA S) {l u s : Int32} (hQ : ∀ h', RM h' (sitem S l u s).2 m → FMb m h h' → Q (.inl (some (.inl (sitem S l u s).1))) h') : jM g mX10_item [.inr (.inr (some m)), .inl l, .inl u, .inl s] h 0 0 Q := by
  have hN := W.n
  have F := W.1
  have A := W.2.1
  refine eX10_item ⟨M.t, ?_⟩
  intro h1 e1
  have M1 : RM h1 S m := by rw [e1]; exact M.th
  have f1 : FMb m h h1 := FMb.si e1 (by decide)
  have same : ∀ r : Int32, sitem S l u s = (r, S) → Q (.inl (some (.inl r))) h1 := fun r e => by
    have := hQ h1 (by rw [e]; exact M1) f1
    rw [e] at this; exact this
  have bad4 : (okL l.toInt = false ∨ okU l.toInt u.toInt s.toInt = false) → Q (.inl (some (.inl (-4)))) h1 := fun q => same _ (if_pos q)
  -- all is so: where it stands
  have h83 : okL l.toInt = true → okU l.toInt u.toInt s.toInt = true → VX10_item_83 g m l u s h1 0 0 Q := by
    intro hL hU
    have bl := of_decide_eq_true hL
    have bu := of_decide_eq_true hU
    have hLU : ¬ (okL l.toInt = false ∨ okU l.toInt u.toInt s.toInt = false) := by rw [hL, hU]; decide
    have el : l = nI l.toInt.toNat := nI_of0 (by omega)
    have eu : u = nI u.toInt.toNat := nI_of0 (by omega)
    have es : s = nI s.toInt.toNat := nI_of0 (by omega)
    have cl : ((l.toInt.toNat : Nat) : Int) = l.toInt := by omega
    have cu : ((u.toInt.toNat : Nat) : Int) = u.toInt := by omega
    have cs : ((s.toInt.toNat : Nat) : Int) = s.toInt := by omega
    have bad3 : okP S l.toInt = false → Q (.inl (some (.inl (-3)))) h1 := fun q => same _ (by unfold sitem; rw [if_neg hLU, if_pos q])
    have h183 : ∀ x5, okP S l.toInt = true → x5 = nI (if l.toInt.toNat = 66 then 0 else aro S l.toInt) → VX10_item_183 g m l u s x5 h1 0 0 Q := by
      intro x5 hP hx
      by_cases c : sN S < 120
      · have e : sitem S l u s = (nI (sN S + 1), sadd S l.toInt.toNat u.toInt.toNat s.toInt.toNat) := by
          unfold sitem
          rw [if_neg hLU, if_neg (by rw [hP]; decide), if_pos c]
        have := m_add (Q := Q) (g := g) M1 W (l := l.toInt.toNat) (u := u.toInt.toNat) (s := s.toInt.toNat) c (by omega) (by omega) (by omega) (by rw [cl]; exact hL) (by rw [cl, cu, cs]; exact hU) (by rw [cl]; exact hP) (fun h' R' F' => by
          have q := hQ h' (by rw [e]; exact R') (f1.trans F')
          rw [e] at q; exact q)
        rw [cl, ← el, ← eu, ← es, ← hx] at this
        exact this
      · have e : sitem S l u s = (-1, S) := by
          unfold sitem
          rw [if_neg hLU, if_neg (by rw [hP]; decide), if_neg c]
        refine ⟨M1.t, ?_⟩
        rw [M1.many]
        have e120 : nI (sN S) = 120 := (nI_eq (b := 120) (by omega) (by decide)).mpr (by omega)
        exact ⟨fun q => absurd e120 q, fun _ => same _ e⟩
    have ar1 : l.toInt = 1 ∨ l.toInt = 77 → aro S l.toInt = 0 := fun q => by
      unfold aro
      by_cases c1 : l.toInt = 1
      · rw [if_pos c1]
      · rw [if_neg c1, if_neg (by omega), if_pos (by omega)]
    have h112 : ¬ (2 ≤ l.toInt ∧ l.toInt ≤ 49) → VX10_item_112 g m l u s 0 h1 0 0 Q := by
      intro ni
      have c88 : l = 88 ↔ l.toInt = 88 := by rw [← Int32.toInt_inj]; rfl
      have c66 : l = 66 ↔ l.toInt = 66 := by rw [← Int32.toInt_inj]; rfl
      unfold VX10_item_112
      rw [c88, c66]
      refine ⟨fun q => ⟨fun q2 => ?_, fun q2 => ⟨M1.t, ?_⟩⟩, fun q => ⟨M1.t, m_named M1 W ?_⟩⟩
      · have l17 : l.toInt = 1 ∨ l.toInt = 77 := by omega
        have hP : okP S l.toInt = true := decide_eq_true (by omega)
        exact h183 0 hP (by rw [ar1 l17, ite_self]; rfl)
      · have ea : aro S l.toInt = topRec S := by unfold aro; rw [if_neg (by omega), if_pos q2]
        have z0 : nI (sN S) = 0 ↔ sN S = 0 := nI_eq (b := 0) (by omega) (by decide)
        have pf : (aro S l.toInt = 0 ∨ ¬ us S (aro S l.toInt) = 0) → okP S l.toInt = false := fun w => decide_eq_false (fun w2 => by
          rcases w2 with w2 | w2 | ⟨w3, w4⟩
          · omega
          · omega
          · rcases w4 with w4 | w4
            · omega
            · rcases w with w | w
              · exact w3 w
              · exact w w4.2.1)
        rw [M1.many, z0]
        refine ⟨fun w => bad3 (pf (Or.inl (by rw [ea]; unfold topRec; rw [if_pos w]))), fun w => ?_⟩
        have wr := A.wr (sN S) (by omega) (Nat.le_refl _)
        obtain ⟨a1, a2, a3, a4⟩ := M1.arc (i := sN S) (by omega) hN
        rw [a4]
        obtain ⟨b1, b2, b3, b4⟩ := M1.alv (i := rc S (sN S)) wr.1 (by omega)
        obtain ⟨d1, d2, d3, d4⟩ := M1.aus (i := rc S (sN S)) wr.1 (by omega)
        have e1 : nI (lv S (rc S (sN S))) = 1 ↔ lv S (rc S (sN S)) = 1 := nI_eq (b := 1) (by have := F.lv (rc S (sN S)); omega) (by decide)
        have e2 : nI (us S (rc S (sN S))) = 0 ↔ us S (rc S (sN S)) = 0 := nI_eq (b := 0) (by have := F.us (rc S (sN S)); omega) (by decide)
        rw [b4, d4, e1, e2]
        refine ⟨a1, a2, a3, b1, b2, b3, fun y => bad3 (pf (Or.inl ?_)), fun y => ⟨d1, d2, d3, fun y2 => h183 0 (decide_eq_true (Or.inr (Or.inr ⟨?_, Or.inr ⟨by omega, ?_, Or.inl q2⟩⟩))) ?_, fun y2 => bad3 (pf (Or.inr ?_))⟩⟩
        · rw [ea]; unfold topRec; rw [if_neg w, if_neg y]
        · rw [ea]; unfold topRec; rw [if_neg w, if_pos y]; omega
        · rw [ea]; unfold topRec; rw [if_neg w, if_pos y]; exact y2
        · rw [if_pos (by omega)]; rfl
        · rw [ea]; unfold topRec; rw [if_neg w, if_pos y]; exact y2
      · have ea : aro S l.toInt = lastNN S (sN S) := by unfold aro; rw [if_neg (by omega), if_neg (by omega), if_neg (by omega), if_pos q]
        have ll := lastNN_le S (sN S)
        rw [jki_i]
        have z : nI (if 3 ≤ us S (lastNN S (sN S)) ∧ us S (lastNN S (sN S)) ≤ 8 ∧ ¬ lastNN S (sN S) = 0 then lastNN S (sN S) else 0) = 0 ↔ ¬ (3 ≤ us S (lastNN S (sN S)) ∧ us S (lastNN S (sN S)) ≤ 8 ∧ ¬ lastNN S (sN S) = 0) := by
          rw [show (0 : Int32) = nI 0 from rfl, nI_eq (by split <;> omega) (by decide)]
          split
          · rename_i w; exact ⟨fun y => absurd y w.2.2, fun y => absurd w y⟩
          · rename_i w; exact ⟨fun _ => w, fun _ => rfl⟩
        rw [z]
        refine ⟨fun w => ?_, fun w => bad3 (decide_eq_false (fun w2 => ?_))⟩
        · have w' := Decidable.not_not.mp w
          refine h183 _ (decide_eq_true (Or.inr (Or.inr ⟨by rw [ea]; exact w'.2.2, Or.inl ⟨q, by rw [ea]; exact w'.1, by rw [ea]; exact w'.2.1⟩⟩))) ?_
          rw [if_pos w', if_neg (by omega), ea]
        · rcases w2 with w2 | w2 | ⟨w3, w4⟩
          · omega
          · omega
          · rw [ea] at w3 w4
            rcases w4 with w4 | w4
            · exact w ⟨w4.2.1, w4.2.2, w3⟩
            · exact w4.1 q
    unfold VX10_item_83
    simp only [Int32.le_iff_toInt_le, Int32.reduceToInt]
    refine ⟨fun q => h112 (by omega), fun q => ⟨fun q2 => h112 (by omega), fun q2 => ⟨M1.t, ?_⟩⟩⟩
    have ab := m_above (Q := jki (fun (r69 : Int32) (h70 : jh) => ((¬ (r69) = 0 → VX10_item_183 g (m) (l) (u) (s) (r69) h70 0 0 Q) ∧ ((r69) = 0 → Q (.inl (some (.inl ((-3))))) h70))) (fun e h9 => Q (.inr e) h9)) (g := g) M1 W (l := l.toInt.toNat) (by omega) (by omega) ?_
    · rw [← el] at ab; exact ab
    · rw [jki_i, cl]
      have hle := aro_le A.wr l.toInt
      cases hP : okP S l.toInt with
      | true =>
        have n0 : ¬ aro S l.toInt = 0 := by
          have := of_decide_eq_true hP
          rcases this with w | w | w
          · omega
          · omega
          · exact w.1
        rw [if_pos rfl]
        refine ⟨fun _ => h183 _ hP (by rw [if_neg (by omega)]), fun w => ?_⟩
        have := (nI_eq (b := 0) (by omega) (by decide)).mp w
        exact absurd this n0
      | false =>
        rw [if_neg (by decide)]
        exact ⟨fun w => absurd rfl w, fun _ => bad3 hP⟩
  have h39 : ∀ gd : Bool, gd = okL l.toInt → VX10_item_39 g m l u s (jb gd) h1 0 0 Q := by
    intro gd hg
    unfold VX10_item_39
    rw [jb_0]
    refine ⟨fun q => bad4 (Or.inl (by rw [← hg]; exact q)), fun q => ?_⟩
    have hL : okL l.toInt = true := by rw [← hg]; simpa using q
    simp only [Int32.lt_iff_toInt_lt, Int32.reduceToInt]
    refine ⟨fun q2 => bad4 (Or.inr (decide_eq_false (by omega))), fun q2 => ⟨fun q3 => bad4 (Or.inr (decide_eq_false (by omega))), fun q3 => m_isSize ?_⟩⟩
    rw [jki_i, jb_0]
    simp only [← Int32.toInt_inj, Int32.reduceToInt]
    refine ⟨fun q4 => bad4 (Or.inr (decide_eq_false ?_)), fun q4 => ?_⟩
    · have := of_decide_eq_false q4; omega
    · have sz := of_decide_eq_true (by simpa using q4 : okS u.toInt s.toInt = true)
      refine ⟨fun q5 => ⟨fun q6 => h83 hL (decide_eq_true (by omega)), fun q6 => bad4 (Or.inr (decide_eq_false (by omega)))⟩, fun q5 => ⟨fun q6 => h83 hL (decide_eq_true (by omega)), fun q6 => ⟨fun q7 => h83 hL (decide_eq_true (by omega)), fun q7 => bad4 (Or.inr (decide_eq_false (by omega)))⟩⟩⟩
  have h16 : ¬ (1 ≤ l.toInt ∧ l.toInt ≤ 49) → VX10_item_16 g m l u s h1 0 0 Q := by
    intro ni
    unfold VX10_item_16
    simp only [← Int32.toInt_inj, Int32.reduceToInt]
    exact ⟨fun q => h39 true (decide_eq_true (by omega)).symm, fun q => ⟨fun q2 => h39 true (decide_eq_true (by omega)).symm, fun q2 => ⟨fun q3 => h39 false (decide_eq_false (by omega)).symm, fun q3 => h39 true (decide_eq_true (by omega)).symm⟩⟩⟩
  simp only [Int32.lt_iff_toInt_lt, Int32.le_iff_toInt_le, Int32.reduceToInt]
  exact ⟨fun q => h16 (by omega), fun q => ⟨fun q2 => h39 true (decide_eq_true (by omega)).symm, fun q2 => h16 (by omega)⟩⟩
end Mod4
