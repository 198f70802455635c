/-! the reference's lay -/
section ModL
variable {g : jg} {h h' h1 : jh} {S : sg} {m : Nat} {Q : jq}
theorem lent_root (hp : ∀ i, 0 < i → cpa S i < i) {r : Nat} (hr : cpa S r = 0) : ∀ i, 1 ≤ i → onc S i r = true → lent S i = (aside S i || lte S r) := by
  intro i
  induction i using Nat.strongRecOn with
  | _ i ih =>
    intro h1 ho
    have es : aside S i = (decide (ot S i ≠ 0) || aside S (cpa S i)) := chk_step hp (by omega)
    have el : lent S i = ((decide (¬ ot S i = 0) || (decide (cpa S i = 0) && lte S i)) || lent S (cpa S i)) := chk_step hp (by omega)
    rw [es, el]
    rcases onc_or hp ho with e | e
    · rw [← e, hr, decide_eq_true (rfl : (0 : Nat) = 0), show lent S 0 = false from rfl, show aside S 0 = false from rfl]
      simp
    · have hc : ¬ cpa S i = 0 := fun z => by rw [z] at e; cases e
      rw [ih _ (hp i h1) (by omega) e, decide_eq_false hc]
      simp [Bool.or_assoc]
theorem lent_rc (W : WA S) {i : Nat} (i1 : 1 ≤ i) (i2 : i ≤ sN S) (hl : lies S i = true) : lent S i = (aside S i || lte S (rc S i)) := by
  obtain ⟨a, b⟩ := onc_rc W.1 W.2.1 W.2.2.1 i i1 i2 hl
  exact lent_root W.wb.p b i i1 a
theorem mV_lay {j i : Nat} (h1 : 1 ≤ j) (h2 : j ≤ 16) : mV (slaid S) j i = mV S j i := by
  unfold mV
  by_cases c : j = 12
  · rw [if_pos c, if_pos c]; rfl
  · rw [if_neg c, if_neg c]
    congr 1
    unfold slaid
    show (if _ then _ else _) = _
    split <;> (rw [if_neg (by omega), if_neg (by omega), if_neg (by omega), if_neg (by omega), if_neg (by omega), if_neg (by omega), if_neg (by omega)])
theorem mV_un {j i : Nat} (h1 : 1 ≤ j) (h2 : j ≤ 16) : mV (sun S) j i = mV S j i := by
  unfold mV
  by_cases c : j = 12
  · rw [if_pos c, if_pos c]; rfl
  · rw [if_neg c, if_neg c]
    congr 1
    unfold sun
    show (if _ then _ else _) = _
    split <;> rw [if_neg (by omega)]
theorem RM.un (R : RS h S m) (e : ji h 533 m = 0) : RM h (sun S) m := by
  obtain ⟨a1, a2, -, a4, a5, a6, a7, a8, -⟩ := R
  refine ⟨a1, a2, e, a4, a5, fun j i x1 x2 x3 x4 => ?_, a7, a8, fun z => absurd z (by show ¬ 0 = 1; decide)⟩
  rw [mV_un x1 x2]; exact a6 j i x1 x2 x3 x4
theorem RM.lay (R : RS h S m) (F : WF S) (e : ji h 533 m = 1) (L : RML h (slaid S) m) : RM h (slaid S) m := by
  obtain ⟨a1, a2, -, a4, a5, a6, a7, a8, -⟩ := R
  refine ⟨a1, a2, e, a4, a5, fun j i x1 x2 x3 x4 => ?_, a7, fun i k x1 x2 x3 => ?_, L⟩
  · rw [mV_lay x1 x2]; exact a6 j i x1 x2 x3 x4
  · have x3' : k < rg S i := x3
    have e1 : rf (slaid S) k i = rf S k i := if_neg (by have := F.2.2.2.2.2.2.2.2.2.1 i; omega)
    have e2 : rt (slaid S) k i = rt S k i := if_neg (by have := F.2.2.2.2.2.2.2.2.2.1 i; omega)
    rw [e1, e2]
    exact a8 i k x1 x2 x3'
theorem RS.s3 {v : Int32} (R : RS h S m) (e : h' = jsi h 533 m v) : RS h' S m := by
  obtain ⟨a1, a2, -, a4, a5, a6, a7, a8, -⟩ := R
  refine ⟨a1.fm (FMb.si e (by decide)), ?_, trivial, ?_, ?_, ?_, ?_, ?_, trivial⟩
  · rw [e, ji_si, if_neg (by omega)]; exact a2
  · rw [e, ji_si, if_neg (by omega)]; exact a4
  · rw [e, ji_si, if_neg (by omega)]; exact a5
  · rw [e]; exact a6
  · rw [e]; exact a7
  · rw [e]; exact a8
theorem m_lay (M : RM h S m) (W : WA S) (hQ : ∀ h', RM h' (slay S).2 m → FMb m h h' → Q (.inl (some (.inl (slay S).1))) h') : jM g mX10_lay [.inr (.inr (some m))] h 0 0 Q := by
  have hN := W.n
  have hp := W.wb.p
  have WBh := W.wb
  have F := W.1
  have B := W.2.2.1
  obtain ⟨ld1, ld2⟩ := W.2.2.2.2.2.1
  have R := M.s
  refine eX10_lay ⟨R.t, fun h0 e0 => ?_⟩
  have f0 : FMl m h h0 := FMl.si e0 (Or.inr rfl)
  refine s_layAll (R.fl f0) W (fun hA G RA' FA' hG HA e21 => ?_)
  rw [jkv_i]
  have fA : FMl m h hA := f0.trans FA'
  have eld : ji hA 533 m = nI (laid S) := by rw [fA.2.1 533 (by decide) (by decide) (by decide)]; exact M.2.2.1
  have un : (fwr S (gU S) true ≠ 0 ∨ 20000 < sF S 4 0) → RM hA (sun S) m := by
    intro z
    refine RM.un RA' ?_
    have : ¬ laid S = 1 := fun q => by have := ld2 q; omega
    rw [eld, show laid S = 0 by omega]; rfl
  -- behind the search
  have good : fwr S (gU S) true = 0 → jG g mX10_lay 11 [(0, .inr (.inr (some m))), (1, .inl (nI (sN S + 1)))] [] hA 0 0 Q := by
    intro ok
    have eq := fwr_ok WBh ok
    obtain ⟨k1, k2, k3⟩ := RA'.k21
    have e4 : mfin S (gU S) false 4 0 = sF S 4 0 := (eq 4 0 (Nat.zero_le _)).symm
    have b62 : sF S 4 0 < 2 ^ 63 := by
      have c8 := (INV.mf (b := true) WBh).2.2.2.2.2.2.2.1
      have : mfin S (gU S) true 4 0 < 2 ^ 63 := by omega
      exact this
    have e0' : (0 : Int32).toNatClampNeg = 0 := rfl
    refine vX10_lay_11 ⟨RA'.t, fun _ => ?_, fun c => absurd (by rw [RA'.many, nI_ltI (by omega) (by omega)]; omega) c⟩
    rw [k1, jd_s, k3, e0', e21, e4]
    have le : nL (sF S 4 0) ≤ 20000 ↔ sF S 4 0 ≤ 20000 := pk_lLE (b := 20000) b62 (by decide)
    rw [le]
    refine ⟨jsn, k2, vp_in_nI (n := 0) (N := 121) (by decide) (by decide), fun tk => ?_, fun tk => ?_⟩
    rotate_left
    · 
      have : slay S = (-9, sun S) := by
        unfold slay
        rw [if_neg (fun z => z ok), if_pos (by omega)]
      rw [this] at hQ
      exact hQ hA (un (Or.inr (by omega))) fA.1
    have es : slay S = (nI (sF S 4 0), slaid S) := by
      unfold slay
      rw [if_neg (fun z => z ok), if_neg (by omega)]
    rw [es] at hQ
    intro h51 e51
    have R51 : RS h51 S m := RA'.s3 e51
    obtain ⟨l1, l2, l3⟩ := R51.k21
    rw [l1, jd_s, l3, show jL h51 (m + 21) 0 = nL (sF S 4 0) by rw [e51]; exact e21.trans (by rw [e4]), toInt32_nL]
    refine ⟨jsn, l2, vp_in_nI (n := 0) (N := 121) (by decide) (by decide), fun h56 e56 h58 e58 => ?_⟩
    have f58 : FMl m h51 h58 := (FMl.si e56 (Or.inl (by decide))).trans (FMl.si e58 (Or.inl (by decide)))
    have R58 := R51.fl f58
    have b58 : FMb m h h58 := fA.1.trans ((FMb.si e51 (by decide)).trans f58.1)
    have j33 : ji h58 533 m = 1 := by rw [e58, ji_si, if_neg (by omega), e56, ji_si, if_neg (by omega), e51, ji_si, if_pos ⟨rfl, rfl⟩]
    have j36 : ji h58 536 m = nI (sF S 4 0) := by rw [e58, ji_si, if_neg (by omega), e56, ji_si, if_pos ⟨rfl, rfl⟩]
    have j37 : ji h58 537 m = nI 0 := by rw [e58, ji_si, if_pos ⟨rfl, rfl⟩]; rfl
    have jL58 : jL h58 = jL hA := by rw [e58, e56, e51]; rfl
    obtain ⟨T, eT⟩ : ∃ T, T = byA S (sF S) (ibt S) := ⟨_, rfl⟩
    have facts : ∀ i, 1 ≤ i → i ≤ sN S → lies S i = true → jL hA (m + 21) i = nL (sF S 0 i) ∧ jL hA (m + 22) i = nL (sF S 1 i - sF S 0 i) ∧ (¬ tb S i = 0 → jL hA (m + 23) i = nL (sF S 2 i)) ∧ jL hA (m + 25) i = nL (sF S 3 i) := by
      intro i i1 i2 hl
      obtain ⟨g1, g2, -⟩ := fin_b (b := false) WBh hN i1 i2 hl
      obtain ⟨p1, p2, p3⟩ := HA.2.1 i i1 i2 g1
      obtain ⟨-, p5⟩ := HA.2.2.2 i i1 i2 g2
      have q0 : sF S 0 i = mfin S (gU S) false 0 i := eq 0 i i2
      have q1 : sF S 1 i = mfin S (gU S) false 1 i := eq 1 i i2
      have q2 : sF S 2 i = mfin S (gU S) false 2 i := eq 2 i i2
      have q3 : sF S 3 i = mfin S (gU S) false 3 i := eq 3 i i2
      rw [q0, q1, q2, q3]
      exact ⟨p1, p2, p5, p3⟩
    -- every item
    have l99 : ∀ r c (h1 : jh), c + r = sN S → FMb m h h1 → RS h1 S m → jL h1 = jL hA → ji h1 533 m = 1 → ji h1 536 m = nI (sF S 4 0) → ji h1 537 m = nI (sumN (fun j => sF S 3 j) c) → bGD T (jI h1 (m + 20)) → (∀ j, 1 ≤ j → j ≤ c → own S j = true → ∀ f : Nat → Nat, (∀ t, onc S j t = true → ¬ tb S t = 0 → f t < mo S t) → ∀ o, o < byi S j → jI h1 (m + 20) (sF S 0 j + off S (sF S) f 1 j + o) = T (sF S 0 j + off S (sF S) f 1 j + o)) → jG g mX10_lay 99 [(0, .inr (.inr (some m))), (1, .inl (nI (c + 1)))] [] h1 0 0 Q := by
      intro r
      induction r with
      | zero =>
        intro c h1 hc b1 R1 z1 z2 z3 z4 z5 z6
        have ec : c = sN S := by omega
        subst ec
        refine vX10_lay_99 ⟨R1.t, fun _ => ?_, fun q => absurd (by rw [R1.many, nI_ltI (by omega) (by omega)]; omega) q⟩
        rw [z3]
        refine hQ h1 (RM.lay R1 F z2 (fun _ => ⟨z3, z4, fun k hk => ?_, fun i i1 i2 hl => ?_⟩)) b1
        · have hk' : k < sF S 4 0 := hk
          show jI h1 (m + 20) k = byA S (sF S) (ibt S) k
          rw [← eT]
          rcases z5 k (by omega) with q | q
          · exact q
          · by_cases w : T k = 0
            · rw [q, w]
            · rw [eT] at w
              obtain ⟨i, f, o, i1, i2, io, hf, hoo, ek⟩ := (PR.al (ib := ibt S) WBh ok).2 k w
              rw [ek]
              exact z6 i i1 i2 io f hf o hoo
        · obtain ⟨p1, p2, p3, p4⟩ := facts i i1 i2 hl
          have hr : rn S i = 0 := by
            by_cases w : rn S i = 0
            · exact w
            · have := ((B.2.2.2.2.2.2.2.2.1 i).2 w).2.2.1
              have := lies_of (S := S) hl
              omega
          rw [z1]
          refine ⟨?_, ?_, p3, p4⟩
          · show _ = nL (if rn S i = 0 then _ else _)
            rw [if_pos hr]; exact p1
          · show _ = nL (if rn S i = 0 then _ else _)
            rw [if_pos hr]; exact p2
      | succ r ih =>
        intro c h1 hc b1 R1 z1 z2 z3 z4 z5 z6
        refine vX10_lay_99 ⟨R1.t, fun q => absurd q (by rw [R1.many, nI_ltI (by omega) (by omega)]; omega), fun _ => s_lies R1 F (i := c + 1) (by omega) (by omega) ?_⟩
        rw [jki_i, jb_0, nI_1]
        refine ⟨fun hl => ?_, fun hl => ?_⟩
        · have hl : lies S (c + 1) = true := by simpa using hl
          obtain ⟨p1, p2, p3, p4⟩ := facts (c + 1) (by omega) (by omega) hl
          obtain ⟨n1, n2, n3⟩ := R1.k25
          rw [n1, jd_s, n3, nI_clamp (by omega), z1, p4, z4, toInt32_nL, nI_add]
          refine ⟨R1.t, jsn, n2, vp_in_nI (by omega) (by decide), fun h18 e18 => ?_⟩
          have f18 : FMl m h1 h18 := FMl.si e18 (Or.inl (by decide))
          have R18 := R1.fl f18
          have y1 : jL h18 = jL hA := by rw [e18]; exact z1
          have y2 : ji h18 533 m = 1 := by rw [e18, ji_si, if_neg (by omega)]; exact z2
          have y3 : ji h18 536 m = nI (sF S 4 0) := by rw [e18, ji_si, if_neg (by omega)]; exact z3
          have y4 : ji h18 537 m = nI (sumN (fun j => sF S 3 j) (c + 1)) := by rw [e18, ji_si, if_pos ⟨rfl, rfl⟩]; rfl
          have y5 : jI h18 (m + 20) = jI h1 (m + 20) := by rw [e18]; rfl
          have b18 : FMb m h h18 := b1.trans f18.1
          have skip : own S (c + 1) = false → jG g mX10_lay 99 [(0, .inr (.inr (some m))), (1, .inl (nI (c + 1 + 1)))] [] h18 0 0 Q := fun no => ih (c + 1) h18 (by omega) b18 R18 y1 y2 y3 y4 (by rw [y5]; exact z5) (fun j j1 j2 jo f hf o hoo => by
            have : ¬ j = c + 1 := fun w => by rw [w, no] at jo; cases jo
            rw [y5]
            exact z6 j j1 (by omega) jo f hf o hoo)
          have fin181 : ∀ v : Int32, (v = 0 ↔ lent S (c + 1) = true) → VX10_lay_181 g m (nI (c + 1)) v h18 0 0 Q := by
            intro v hv
            unfold VX10_lay_181
            rw [hv, nI_1]
            refine ⟨fun w => skip (by unfold own; rw [w]; simp), fun w => ⟨R18.t, ?_⟩⟩
            obtain ⟨a1, a2, a3, a4⟩ := R18.aus (i := c + 1) (by omega) (by omega)
            have wu := F.us (c + 1)
            refine ⟨a1, a2, a3, ?_⟩
            rw [a4, le0 (by omega)]
            refine ⟨fun w2 => skip (by unfold own; rw [w2]; simp), fun w2 => ?_⟩
            have io : own S (c + 1) = true := by
              unfold own
              rw [hl, decide_eq_false w2]
              have : lent S (c + 1) = false := by simpa using w
              rw [this]; rfl
            have eby : sF S 1 (c + 1) - sF S 0 (c + 1) = byi S (c + 1) := by
              have q := ((INV.mf (b := true) WBh).1 (c + 1) (by omega) (by omega) hl).2.2.1 w2
              have q' : sF S 1 (c + 1) = sF S 0 (c + 1) + byi S (c + 1) := q
              omega
            refine s_fillAll R18 W ok tk (by omega) (by omega) io (by rw [y1]; exact p1) (by rw [y1, ← eby]; exact p2) (fun t t1 t2 tt => ?_) (by rw [y5, ← eT]; exact z5) (fun h2 F2 g2 l2 cv => ?_)
            · rw [y1]
              have lt : lies S t = true := by
                have := WBh.tm tt
                unfold lies
                rw [decide_eq_true (by omega : lv S t < 50)]; rfl
              exact (facts t t1 t2 lt).2.2.1 tt
            · rw [jkv_i]
              rw [← eT] at g2 l2 cv
              refine ih (c + 1) h2 (by omega) (b18.trans F2.ml.1) (R18.ff F2) (F2.2.2.2.2.2.2.1.trans y1) ?_ ?_ ?_ g2 (fun j j1 j2 jo f hf o hoo => ?_)
              · rw [F2.2.2.2.1 533 m (by omega)]; exact y2
              · rw [F2.2.2.2.1 536 m (by omega)]; exact y3
              · rw [F2.2.2.2.1 537 m (by omega)]; exact y4
              · by_cases w : j = c + 1
                · subst w
                  exact cv f hf o hoo
                · refine l2 _ ?_
                  rw [y5]
                  exact z6 j j1 (by omega) jo f hf o hoo
          refine s_aside R18 W (i := c + 1) (by omega) (by omega) hl ?_
          have elr := lent_rc W (i := c + 1) (by omega) (by omega) hl
          rw [jki_i, jb_0]
          refine ⟨fun w => fin181 0 ⟨fun _ => ?_, fun _ => rfl⟩, fun w => ⟨R18.t, ?_⟩⟩
          · have : aside S (c + 1) = true := by simpa using w
            rw [elr, this]; rfl
          · obtain ⟨o1, o2⟩ := onc_rc F W.2.1 B (c + 1) (by omega) (by omega) hl
            have o3 := onc_le hp _ _ o1
            have o4 : 1 ≤ rc S (c + 1) := o3.1
            obtain ⟨a1, a2, a3, a4⟩ := R18.arc (i := c + 1) (by omega) (by omega)
            rw [nI_clamp (by omega)] at a4
            obtain ⟨d1, d2, d3, d4⟩ := R18.ana (i := rc S (c + 1)) o4 (by omega) hN
            have w1 : na S (rc S (c + 1)) ≤ 100 := F.2.2.2.2.2.2.2.2.2.2.1 _
            rw [w, Bool.false_or] at elr
            have zn : nI (na S (rc S (c + 1))) - 1 = -1 ↔ na S (rc S (c + 1)) = 0 := by
              rw [← Int32.toInt_inj, show (1 : Int32) = nI 1 from rfl, pk_sub_toInt (by omega) (by decide), show (-nI 1 : Int32).toInt = -1 from rfl]; omega
            refine ⟨a1, a2, a3, d1, d2, by rw [a4]; exact d3, ?_⟩
            rw [a4, d4, zn]
            refine ⟨fun z => fin181 1 ⟨fun y => absurd y (by decide), fun y => ?_⟩, fun z => s_firstOf R18 W o4 (by omega) z ?_⟩
            · rw [elr] at y
              have := of_decide_eq_true y
              exact absurd z this.1
            · rw [jki_i, a4]
              have fl := fnm_min (S := S) (j := rc S (c + 1)) o4 (by omega) rfl
              have ze : nI (fnm S (na S (rc S (c + 1)))) = nI (rc S (c + 1)) ↔ fnm S (na S (rc S (c + 1))) = rc S (c + 1) := nI_eq (by omega) (by omega)
              rw [ze]
              refine ⟨R18.t, a1, a2, a3, fun y => fin181 0 ⟨fun _ => ?_, fun _ => rfl⟩, fun y => fin181 1 ⟨fun x => absurd x (by decide), fun x => ?_⟩⟩
              · rw [elr]; exact decide_eq_true ⟨z, y⟩
              · rw [elr] at x
                exact absurd y (of_decide_eq_true x).2
        · have e3 : sF S 3 (c + 1) = 0 := by
            have q1 : mfin S (gU S) true 3 (c + 1) = mst S (gU S) true (sN S) 3 (c + 1) := mfin_at hp (Or.inr (Or.inl rfl)) (by omega) (Nat.le_refl _)
            have q2 := fin_n3 (U := gU S) (b := true) WBh hl (sN S) (Nat.le_refl _)
            exact q1.trans q2
          refine ih (c + 1) h1 (by omega) b1 R1 z1 z2 z3 ?_ z5 (fun j j1 j2 jo f hf o hoo => ?_)
          · rw [z4]
            show _ = nI (_ + sF S 3 (c + 1))
            rw [e3]; rfl
          · have : ¬ j = c + 1 := fun w => by
              have := (own_l jo).1
              rw [w, hl] at this; cases this
            exact z6 j j1 (by omega) jo f hf o hoo
    -- all bytes cleared
    have l77 : ∀ r k (h1 : jh), k + r = 20000 → FA (m + 20) h58 h1 → (∀ j, j < k → jI h1 (m + 20) j = 0) → jG g mX10_lay 77 [(0, .inr (.inr (some m))), (1, .inl (nI k))] [] h1 0 0 Q := by
      intro r
      induction r with
      | zero =>
        intro k h1 hk F1 z
        have ek : k = 20000 := by omega
        subst ek
        refine vX10_lay_77 ⟨fun _ => ?_, fun c => absurd (by decide) c⟩
        refine l99 (sN S) 0 h1 (by omega) (b58.trans F1.ml.1) (R58.fa F1) (F1.2.2.2.2.2.2.1.trans jL58) ?_ ?_ ?_ (fun k hk => Or.inr (z k hk)) (fun j j1 j2 => by omega)
        · rw [F1.2.2.2.1]; exact j33
        · rw [F1.2.2.2.1]; exact j36
        · rw [F1.2.2.2.1]; exact j37
      | succ r ih =>
        intro k h1 hk F1 z
        have R1 := R58.fa F1
        refine vX10_lay_77 ⟨fun c => absurd c (by rw [show (20000 : Int32) = nI 20000 from rfl, nI_leI (by omega) (by omega)]; omega), fun _ => ⟨R1.t, ?_⟩⟩
        rw [nI_1]
        refine s_put R1 (k := k) (by omega) (fun h2 F2 e2 => ih (k + 1) h2 (by omega) (F1.trans F2) (fun j hj => ?_))
        rw [e2]
        unfold wr1
        split
        · rfl
        · exact z j (by omega)
    exact l77 20000 0 h58 (by omega) FA.rf (fun j hj => by omega)
  have feq := fwr_eq WBh
  have l11 : ∀ r c, c + r = sN S → fstU (fun i => ! rgt S (gU S) false (mfin S (gU S) false) i) (c + 1) r = fwr S (gU S) true → jG g mX10_lay 11 [(0, .inr (.inr (some m))), (1, .inl (nI (c + 1)))] [] hA 0 0 Q := by
    intro r
    induction r with
    | zero =>
      intro c hc e
      have : c = sN S := by omega
      subst this
      exact good e.symm
    | succ r ih =>
      intro c hc e
      refine vX10_lay_11 ⟨RA'.t, fun q => absurd q (by rw [RA'.many, nI_ltI (by omega) (by omega)]; omega), fun _ => s_isWrong RA' W hG HA (i := c + 1) (by omega) (by omega) ?_⟩
      have ef : fstU (fun i => ! rgt S (gU S) false (mfin S (gU S) false) i) (c + 1) (r + 1) = if (! rgt S (gU S) false (mfin S (gU S) false) (c + 1)) = true then c + 1 else fstU (fun i => ! rgt S (gU S) false (mfin S (gU S) false) i) (c + 1 + 1) r := rfl
      rw [ef] at e
      rw [jki_i, jb_0, nI_1]
      refine ⟨fun w => ?_, fun w => ?_⟩
      · rw [w, if_neg (by decide)] at e
        exact ih (c + 1) (by omega) e
      · have w' : (! rgt S (gU S) false (mfin S (gU S) false) (c + 1)) = true := by simpa using w
        rw [w', if_pos rfl] at e
        have es : slay S = (-10 - nI (c + 1), sun S) := by
          unfold slay
          rw [if_pos (by omega), ← e]
        rw [es] at hQ
        exact hQ hA (un (Or.inl (by omega))) fA.1
  exact l11 (sN S) 0 (by omega) (by rw [feq]; rfl)
end ModL
