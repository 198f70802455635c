/-! the class's whole state; item -/
/-- what holds of the heap when it is laid out (so: the store, al: its bytes) -/
def LAY (h : jh) (S : sg) (so al : Nat) (ad : Nat → Nat) : Prop := laid S = 1 → ji h 257 so = nI (tot S) ∧ tot S ≤ 20000 ∧ tot S ≤ jn h al ∧ (∀ i, i < tot S → jI h al i = bv S i) ∧
  ∀ i, 1 ≤ i → i ≤ sN S → (lv S i ≠ 88 → jl h 192 (ad i + 1) = nL (pl S i) ∧ jl h 193 (ad i + 1) = nL (pl S i + ln S i)) ∧ ji h 195 (ad i + 1) = nI (sk S i) ∧ mv S i ≤ sN S ∧
    jr h 197 (ad i + 1) = (if mv S i = 0 then none else jr h 10 (ad (mv S i))) ∧ ∀ t, jr h 10 (ad i) = some t → jl h 324 t = nL (sd S i)
/-- cells of the reference: b1 .. b2 -/
def RB (h : jh) (S : sg) (ad : Nat → Nat) (b1 b2 : Nat) : Prop := (b1 ≤ b2 → b2 < jz h) ∧ (∀ a, b1 ≤ a → a ≤ b2 → jt h a = 9 ∨ jt h a = 20 ∨ jt h a = 21 ∨ jt h a = 22 ∨ jt h a = 24) ∧ ∀ i r, 1 ≤ i → i ≤ sN S → jr h 14 (ad i) = some r → (r + 1 < b1 ∨ b2 < r + 1) ∧ (r + 2 < b1 ∨ b2 < r + 2)
/-- tables, ranges and spots are apart -/
def RJ (h : jh) (S : sg) (ad : Nat → Nat) : Prop := (∀ i j t, 1 ≤ i → i ≤ sN S → 1 ≤ j → j ≤ sN S → jr h 10 (ad i) = some t → jr h 10 (ad j) = some t → i = j) ∧ (∀ i j r q, 1 ≤ i → i ≤ sN S → 1 ≤ j → j ≤ sN S → jr h 14 (ad i) = some r → jr h 14 (ad j) = some q → i ≠ j → r + 1 ≠ q + 1 ∧ r + 1 ≠ q + 2 ∧ r ≠ q) ∧
  (∀ i, 1 ≤ i → i ≤ sN S → lv S i = 66 ∨ lv S i = 88 → ji h 195 (ad i + 1) = 0)
def RCx (h : jh) (S : sg) (x b1 b2 tr pl so rw al : Nat) (ad : Nat → Nat) : Prop :=
  jt h x = 8 ∧ jr h 448 x = some tr ∧ jr h 449 x = some pl ∧ jr h 450 x = some so ∧ ji h 451 x = nI (laid S) ∧ ji h 452 x = nI (looks S) ∧ ji h 453 x = nI (looked S) ∧ jt h pl = 2 ∧ jr h 64 pl = some tr ∧ jt h so = 5 ∧ jr h 256 so = some al ∧ jt h al = 21 ∧ (al < b1 ∨ b2 < al) ∧ jn h al ≤ 20000 ∧
  RTree h S tr rw ad ∧ HW h ∧ RB h S ad b1 b2 ∧ RJ h S ad ∧ LAY h S so al ad
def RC (h : jh) (S : sg) (x b1 b2 c : Nat) : Prop := ∃ (tr pl so rw al : Nat) (ad : Nat → Nat), RCx h S x b1 b2 tr pl so rw al ad ∧ jn h al = c
/-- how the bytes that the class has made grow: cells and slots -/
def sitem (S : sg) (l u s : Int32) : Int32 × sg := if okL l.toInt = false ∨ okU l.toInt u.toInt s.toInt = false then (-4, S) else if okP S l.toInt = false then (-3, S) else if sN S < 120 then (nI (sN S + 1), sadd S l.toInt.toNat u.toInt.toNat s.toInt.toNat) else (-1, S)
/-- the tree stays when all cells but one of tag 8 stay -/
theorem RTree.same {h h' : jh} {S : sg} {tr rw : Nat} {ad : Nat → Nat} (R : RTree h S tr rw ad) (hs : ∀ c, jt h c ≠ 8 → Sm h h' c) : RTree h' S tr rw ad := by
  obtain ⟨r1, r2, r3, r4, r5, r6, r7⟩ := id R
  have st := hs tr (by rw [r1]; decide)
  have sw := hs rw (by rw [r3]; decide)
  refine ⟨st.1.trans r1, ((st.2.2.1 384).2.2).trans r2, sw.1.trans r3, sw.2.1.trans r4, ((st.2.2.1 385).1).trans r5, r6, fun i a b => ?_⟩
  obtain ⟨⟨x1, x2, x3, x4, x5, x6, x7, x8, x9, x10, x11, x12, x13, x14, x15, x16, x17, x18, x19, x20, x21⟩, hT, hR⟩ := r7 i a b
  have si := hs (ad i) (by rw [x2]; decide)
  have sp := hs (ad i + 1) (by rw [x11]; decide)
  have ki : ∀ k, ji h' k (ad i) = ji h k (ad i) := fun k => (si.2.2.1 k).1
  have kr : ∀ k, jr h' k (ad i) = jr h k (ad i) := fun k => (si.2.2.1 k).2.2
  refine ⟨⟨((sw.2.2.2 i).2.2).trans x1, si.1.trans x2, (ki 0).trans x3, (ki 1).trans x4, (ki 2).trans x5, (ki 3).trans x6, (ki 4).trans x7, (kr 5).trans x8, (kr 6).trans x9, (kr 7).trans x10, sp.1.trans x11, (kr 8).trans x12, (ki 9).trans x13, (ki 11).trans x14, (ki 12).trans x15, (ki 13).trans x16, (kr 15).trans x17, (kr 16).trans x18, (kr 17).trans x19, (ki 18).trans x20, (ki 19).trans x21⟩, ⟨fun q => (kr 10).trans (hT.1 q), fun q => ?_⟩, ⟨fun q => (kr 14).trans (hR.1 q), fun q => ?_⟩⟩
  · obtain ⟨t, y1, y2, y3, y4, y5, y6⟩ := hT.2 q
    have s := hs t (by rw [y2]; decide)
    exact ⟨t, (kr 10).trans y1, s.1.trans y2, ((s.2.2.1 320).1).trans y3, ((s.2.2.1 321).1).trans y4, ((s.2.2.1 322).1).trans y5, ((s.2.2.1 323).1).trans y6⟩
  · obtain ⟨r, y1, y2, y3, y4, y5, y6, y7, y8, y9, y10⟩ := hR.2 q
    have s0 := hs r (by rw [y2]; decide)
    have s1 := hs (r + 1) (by rw [y5]; decide)
    have s2 := hs (r + 2) (by rw [y6]; decide)
    exact ⟨r, (kr 14).trans y1, s0.1.trans y2, ((s0.2.2.1 128).2.2).trans y3, ((s0.2.2.1 129).2.2).trans y4, s1.1.trans y5, s2.1.trans y6, s1.2.1.trans y7, s2.2.1.trans y8, ((s0.2.2.1 130).1).trans y9, fun k hk => ⟨((s1.2.2.2 k).1).trans (y10 k hk).1, ((s2.2.2.2 k).1).trans (y10 k hk).2⟩⟩
section Rc1
variable {g : jg} {h : jh} {S : sg} {x b1 b2 tr pl so rw al : Nat} {ad : Nat → Nat} {Q : jq}
theorem RB.tag (B : RB h S ad b1 b2) {a : Nat} (ha : jt h a ≠ 9) (ha2 : jt h a < 20 ∨ jt h a = 23) : a < b1 ∨ b2 < a := by
  by_cases q : b1 ≤ a ∧ a ≤ b2
  · have := B.2.1 a q.1 q.2
    omega
  · omega
theorem c_item (C : RCx h S x b1 b2 tr pl so rw al ad) (W : WR S) (Z : WZ S) (V : WV S) {l u s : Int32} (hQ : ∀ h', RC h' (sitem S l u s).2 x b1 b2 (jn h al) → FB b1 b2 h h' → jz h' ≤ jz h + 2 → Q (.inl (some (.inl (sitem S l u s).1))) h') : jM g mX9_item [.inr (.inr (some x)), .inl l, .inl u, .inl s] h 2 26 Q := by
  obtain ⟨x1, x2, x3, x4, x5, x6, x7, x8, x9, x10, x11, x12, x13, x14, R, H, B, J, L⟩ := id C
  have same : ∀ r : Int32, sitem S l u s = (r, S) → Q (.inl (some (.inl r))) h := fun r e => by
    have := hQ h (by rw [e]; exact ⟨tr, pl, so, rw, al, ad, C, rfl⟩) FB.rf (by omega)
    rw [e] at this
    exact this
  refine eX9_item (c_isLevel ?_)
  rw [jki_i]
  refine ⟨fun c => same _ ?_, fun c => ?_⟩
  · rw [jb_0] at c
    exact if_pos (Or.inl c)
  · rw [jb_0] at c
    have hL : okL l.toInt = true := by simpa using c
    refine c_isUsage ?_
    rw [jki_i]
    refine ⟨fun c2 => ?_, fun c2 => same _ ?_⟩
    · rw [jb_0] at c2
      have hU : okU l.toInt u.toInt s.toInt = true := by simpa using c2
      have hLU : ¬ (okL l.toInt = false ∨ okU l.toInt u.toInt s.toInt = false) := by rw [hL, hU]; decide
      have bl := of_decide_eq_true hL
      have bu := of_decide_eq_true hU
      have l0 : 0 ≤ l.toInt ∧ l.toInt ≤ 88 := by omega
      have u0 : 0 ≤ u.toInt ∧ u.toInt ≤ 11 := by omega
      have s0 : 0 ≤ s.toInt ∧ s.toInt ≤ 200 := by omega
      have el : l = nI l.toInt.toNat := by rw [← Int32.toInt_inj, nI_toInt (by omega)]; omega
      have eu : u = nI u.toInt.toNat := by rw [← Int32.toInt_inj, nI_toInt (by omega)]; omega
      have es : s = nI s.toInt.toNat := by rw [← Int32.toInt_inj, nI_toInt (by omega)]; omega
      have ln : ((l.toInt.toNat : Nat) : Int) = l.toInt := by omega
      refine ⟨x1, ?_⟩
      rw [x2, jd_s]
      refine ⟨jsn, R.tg, c_hasPlaceFor R W ?_⟩
      rw [jki_i]
      refine ⟨fun c3 => ⟨x1, ?_⟩, fun c3 => same _ ?_⟩
      · rw [jb_0] at c3
        have hP : okP S l.toInt = true := by simpa using c3
        rw [x2, jd_s, R.told]
        refine ⟨jsn, R.tg, fun c4 => ?_, fun c4 => same _ ?_⟩
        · have hN : sN S < 120 := (nI_ltI (b := 120) (by have := R.N; omega) (by decide)).mp c4
          have e : sitem S l u s = (nI (sN S + 1), sadd S l.toInt.toNat u.toInt.toNat s.toInt.toNat) := by
            unfold sitem
            rw [if_neg hLU, if_neg (by rw [hP]; decide), if_pos hN]
          refine ⟨2, 26, by decide, by decide, ?_⟩
          rw [el, eu, es]
          generalize hl : l.toInt.toNat = l' at *
          generalize hu : u.toInt.toNat = u' at *
          generalize hs : s.toInt.toNat = s' at *
          refine c_add0 R W H hN (by omega) (by omega) (by omega) ?_
          intro h1 D
          rw [jkv_i]
          have RT' := R.add W Z V H hN (by omega) (by omega) (by omega) (by rw [ln]; exact hP) D
          obtain ⟨d1, d2, d3, d4, dn, ⟨t1, t2, t3⟩, ⟨w1, w2, w3⟩, od, sm⟩ := D
          have tt := R.tg
          have tw : jt h rw = 23 := R.2.2.1
          have oth : ∀ c, jt h c ≠ 0 → jt h c ≠ 7 → jt h c ≠ 23 → jt h c ≠ 1 → Sm h h1 c := fun c c0 c7 c23 c1 => sm c (fun q => c7 (by rw [q]; exact tt)) (fun q => c23 (by rw [q]; exact tw)) (fun j a b q => c1 (by rw [q]; exact (R.i a b).2.1)) (by have := H c c0; omega)
          have sx := oth x (by rw [x1]; decide) (by rw [x1]; decide) (by rw [x1]; decide) (by rw [x1]; decide)
          have sp := oth pl (by rw [x8]; decide) (by rw [x8]; decide) (by rw [x8]; decide) (by rw [x8]; decide)
          have ss := oth so (by rw [x10]; decide) (by rw [x10]; decide) (by rw [x10]; decide) (by rw [x10]; decide)
          have sa := oth al (by rw [x12]; decide) (by rw [x12]; decide) (by rw [x12]; decide) (by rw [x12]; decide)
          have H1 : HW h1 := by
            intro a ha
            by_cases q : a = jz h ∨ a = jz h + 1
            · omega
            · by_cases q1 : a = tr
              · have := H tr (by rw [tt]; decide); omega
              · by_cases q2 : a = rw
                · have := H rw (by rw [tw]; decide); omega
                · by_cases q3 : ∃ i, 1 ≤ i ∧ i ≤ sN S ∧ a = ad i
                  · obtain ⟨i, a1, a2, rfl⟩ := q3
                    have := H (ad i) (by rw [(R.i a1 a2).2.1]; decide); omega
                  · have := sm a q1 q2 (fun i a1 a2 e => q3 ⟨i, a1, a2, e⟩) (by omega)
                    rw [this.1] at ha
                    have := H a ha
                    omega
          refine ⟨by rw [sx.1]; exact x1, ?_⟩
          intro h2 e2
          have m2 : ∀ b, b ≠ x → Sm h1 h2 b := fun b hb => Sm.si e2 hb
          have hxt : tr ≠ x := fun q => by rw [q, x1] at tt; omega
          have g1 : jr h2 448 x = some tr := by rw [e2, jr_si, (sx.2.2.1 448).2.2]; exact x2
          have g2 : ji h2 385 tr = nI (sN S + 1) := by rw [((m2 tr hxt).2.2.1 385).1]; exact t3
          rw [g1, jd_s, g2]
          refine ⟨jsn, by rw [(m2 tr hxt).1]; exact t1, ?_⟩
          have hz2 : jz h2 = jz h + 2 := by rw [e2, jz_si]; exact d1
          have tagx : ∀ c, jt h1 c ≠ 8 → Sm h1 h2 c := fun c hc => m2 c (fun q => hc (by rw [q, sx.1]; exact x1))
          have adx : ∀ i, 1 ≤ i → i ≤ sN S + 1 → Sm h1 h2 (adn ad (sN S + 1) (jz h) i) := fun i a1 a2 => tagx _ (by rw [(RT'.i a1 (by rw [sadd_N]; exact a2)).2.1]; decide)
          have ado : ∀ i, i ≤ sN S → adn ad (sN S + 1) (jz h) i = ad i := fun i hi => if_neg (by omega)
          have adz : adn ad (sN S + 1) (jz h) (sN S + 1) = jz h := if_pos rfl
          have ro : ∀ i k, 1 ≤ i → i ≤ sN S → jr h2 k (adn ad (sN S + 1) (jz h) i) = jr h k (ad i) := fun i k a1 a2 => by
            rw [((adx i a1 (by omega)).2.2.1 k).2.2, ado i a2]
            exact (od i a1 a2).2.1 k
          have rz : ∀ k, k ≠ 5 → k ≠ 6 → k ≠ 7 → k ≠ 8 → jr h2 k (adn ad (sN S + 1) (jz h) (sN S + 1)) = none := fun k k1 k2 k3 k4 => by
            rw [((adx (sN S + 1) (by omega) (Nat.le_refl _)).2.2.1 k).2.2, adz]
            exact dn.2.2.2.2.2.2.2.2.2.2.2 k k1 k2 k3 k4
          have fb : FB b1 b2 h h2 := by
            refine Sm.fb ?_
            intro a a1 a2
            have ht := B.2.1 a a1 a2
            have s1 := oth a (by omega) (by omega) (by omega) (by omega)
            exact s1.trans (tagx a (by rw [s1.1]; omega))
          have := hQ h2 ?_ fb (by omega)
          · rw [e] at this
            exact this
          · rw [e]
            refine ⟨tr, pl, so, rw, al, adn ad (sN S + 1) (jz h), ⟨?_, g1, ?_, ?_, ?_, ?_, ?_, ?_, ?_, ?_, ?_, ?_, x13, ?_, ?_, ?_, ⟨?_, ?_, ?_⟩, ⟨?_, ?_, ?_⟩, ?_⟩, by rw [(tagx al (by rw [sa.1, x12]; decide)).2.1, sa.2.1]⟩
            · rw [e2, jt_si, sx.1]; exact x1
            · rw [e2, jr_si, (sx.2.2.1 449).2.2]; exact x3
            · rw [e2, jr_si, (sx.2.2.1 450).2.2]; exact x4
            · rw [e2, ji_si, if_pos ⟨rfl, rfl⟩]; rfl
            · rw [e2, ji_si, if_neg (by omega), (sx.2.2.1 452).1]; exact x6
            · rw [e2, ji_si, if_neg (by omega), (sx.2.2.1 453).1]; exact x7
            · have := tagx pl (by rw [sp.1, x8]; decide)
              rw [this.1, sp.1]; exact x8
            · have := tagx pl (by rw [sp.1, x8]; decide)
              rw [(this.2.2.1 64).2.2, (sp.2.2.1 64).2.2]; exact x9
            · have := tagx so (by rw [ss.1, x10]; decide)
              rw [this.1, ss.1]; exact x10
            · have := tagx so (by rw [ss.1, x10]; decide)
              rw [(this.2.2.1 256).2.2, (ss.2.2.1 256).2.2]; exact x11
            · have := tagx al (by rw [sa.1, x12]; decide)
              rw [this.1, sa.1]; exact x12
            · have := tagx al (by rw [sa.1, x12]; decide)
              rw [this.2.1, sa.2.1]; exact x14
            · exact RT'.same tagx
            · exact e2 ▸ H1.si
            · intro q; have := B.1 q; omega
            · intro a a1 a2
              rw [(fb a a1 a2).1]; exact B.2.1 a a1 a2
            · intro i r a1 a2 hr
              rw [sadd_N] at a2
              by_cases hi : i = sN S + 1
              · subst hi
                rw [rz 14 (by decide) (by decide) (by decide) (by decide)] at hr
                cases hr
              · rw [ro i 14 a1 (by omega)] at hr
                exact B.2.2 i r a1 (by omega) hr
            · intro i j t a1 a2 b1' b2' hi hj
              rw [sadd_N] at a2 b2'
              by_cases hi' : i = sN S + 1
              · subst hi'
                rw [rz 10 (by decide) (by decide) (by decide) (by decide)] at hi
                cases hi
              · by_cases hj' : j = sN S + 1
                · subst hj'
                  rw [rz 10 (by decide) (by decide) (by decide) (by decide)] at hj
                  cases hj
                · rw [ro i 10 a1 (by omega)] at hi
                  rw [ro j 10 b1' (by omega)] at hj
                  exact J.1 i j t a1 (by omega) b1' (by omega) hi hj
            · intro i j r q a1 a2 b1' b2' hi hj hne
              rw [sadd_N] at a2 b2'
              by_cases hi' : i = sN S + 1
              · subst hi'
                rw [rz 14 (by decide) (by decide) (by decide) (by decide)] at hi
                cases hi
              · by_cases hj' : j = sN S + 1
                · subst hj'
                  rw [rz 14 (by decide) (by decide) (by decide) (by decide)] at hj
                  cases hj
                · rw [ro i 14 a1 (by omega)] at hi
                  rw [ro j 14 b1' (by omega)] at hj
                  exact J.2.1 i j r q a1 (by omega) b1' (by omega) hi hj hne
            · intro i a1 a2 hlv
              rw [sadd_N] at a2
              have tg := (RT'.i a1 (by rw [sadd_N]; exact a2)).2.2.2.2.2.2.2.2.2.2.1
              rw [((tagx _ (by rw [tg]; decide)).2.2.1 195).1]
              by_cases hi' : i = sN S + 1
              · subst hi'
                rw [adz]
                exact d4 195
              · rw [ado i (by omega)]
                rw [ado i (by omega)] at tg
                have tgo := (R.i a1 (by omega)).2.2.2.2.2.2.2.2.2.2.1
                rw [((oth (ad i + 1) (by rw [tgo]; decide) (by rw [tgo]; decide) (by rw [tgo]; decide) (by rw [tgo]; decide)).2.2.1 195).1]
                rw [sadd_lv, if_neg hi'] at hlv
                exact J.2.2 i a1 (by omega) hlv
            · intro q
              cases q
        · unfold sitem
          rw [if_neg hLU, if_neg (by rw [hP]; decide), if_neg]
          exact fun q => c4 ((nI_ltI (b := 120) (by have := R.N; omega) (by decide)).mpr q)
      · rw [jb_0] at c3
        unfold sitem
        rw [if_neg hLU, if_pos c3]
    · rw [jb_0] at c2
      exact if_pos (Or.inr c2)
end Rc1
