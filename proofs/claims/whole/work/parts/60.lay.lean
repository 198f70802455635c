/-! lay: the contract -/
section Lay9
variable {g : jg} {h : jh} {S : sg} {x b1 b2 tr rw pn so al : Nat} {ad : Nat → Nat} {Q : jq}
theorem c_lay (C : RCx h S x b1 b2 tr pn so rw al ad) (W : WB S (gU S)) (WLh : WL S) (P : WP S) (P2 : WP2 S) (Z : WU S) (hQ : ∀ h', RC h' (slay S).2 x b1 b2 (lc S (jn h al)) → FB b1 b2 h h' → jz h' ≤ jz h + 1 → Q (.inl (some (.inl (slay S).1))) h') : jM g mX9_lay [.inr (.inr (some x))] h 1 (lsl S (jn h al)) Q := by
  obtain ⟨x1, x2, x3, x4, x5, x6, x7, x8, x9, x10, x11, x12, x13, x14, R, H, B, J, L⟩ := id C
  have hN := R.N
  refine eX9_lay ⟨x1, ?_⟩
  intro h2 e2
  have C2 : RCx h2 (sun S) x b1 b2 tr pn so rw al ad := by
    subst e2
    refine ⟨x1, x2, x3, x4, ?_, x6, x7, x8, x9, x10, x11, x12, x13, x14, R, H, B, J, fun q => ?_⟩
    · rw [ji_si, if_pos ⟨rfl, rfl⟩]; rfl
    · cases q
  have fb2 : FB b1 b2 h h2 := by
    subst e2
    intro a _ _
    refine ⟨rfl, rfl, fun k hk => ⟨?_, rfl, rfl⟩, fun _ => ⟨rfl, rfl, rfl⟩⟩
    rw [ji_si, if_neg (by omega)]
  have R2 : RTree h2 S tr rw ad := by subst e2; exact R
  have J2 : RJ h2 S ad := by subst e2; exact J
  have z2 : jz h2 = jz h := by rw [e2]; rfl
  have n2 : jn h2 = jn h := by rw [e2]; rfl
  obtain ⟨y1, y2, y3, y4, y5, y6, y7, y8, y9, y10, y11, y12, y13, y14, -, H2, B2, -, -⟩ := id C2
  rw [y3, jd_s]
  refine ⟨jsn, y8, c_layAll R2 y9 y8 J2 W WLh P (fun h7 F7 FL7 => ?_)⟩
  rw [jkv_i]
  have C7 : RCx h7 (sun S) x b1 b2 tr pn so rw al ad := C2.fl rfl FL7 (fun i a b q => F7.1.2.2.2.2.1 i a b q)
  have R7 : RTree h7 S tr rw ad := R2.fl FL7
  have fb7 : FB b1 b2 h h7 := fb2.trans FL7.fb
  have z7 : jz h7 = jz h := FL7.1.trans z2
  have n7 : jn h7 = jn h := by rw [FL7.2.2.1, n2]
  obtain ⟨w1, w2, w3, w4, w5, w6, w7, w8, w9, w10, w11, w12, w13, w14, -, H7, B7, J7, -⟩ := id C7
  rw [w3, jd_s]
  refine ⟨w1, jsn, w8, c_firstWrong R7 w9 F7 W WLh ?_⟩
  rw [jki_i]
  have fle : fwr S (gU S) true ≤ sN S := by
    have := fstU_le (f := fun i => ! rgt S (gU S) true (mfin S (gU S) true) i) (sN S) 1
    unfold fwr; omega
  have hsun : ∀ r : Int32, slay S = (r, sun S) → lc S (jn h al) = jn h al → Q (.inl (some (.inl r))) h7 := fun r er el => by
    have := hQ h7 (by rw [er]; exact ⟨tr, pn, so, rw, al, ad, C7, by rw [n7, el]⟩) fb7 (by omega)
    rw [er] at this
    exact this
  by_cases ok : fwr S (gU S) true = 0
  · rw [if_pos ok]
    refine ⟨fun _ => ⟨w1, ?_⟩, fun c => absurd rfl c⟩
    have hF4 : mfin S (gU S) true 4 0 < 2 ^ 62 := by
      have c8 := (INV.mf (b := true) W).2.2.2.2.2.2.2.1
      omega
    have le : jl h7 65 pn ≤ 20000 ↔ sF S 4 0 ≤ 20000 := by
      have h65 := F7.1.1
      rw [h65]
      exact pk_lLE (b := 20000) (Nat.lt_trans hF4 (by decide)) (by decide)
    rw [w3, jd_s, le, w4, jd_s]
    refine ⟨jsn, w8, fun c => ⟨jsn, w10, ?_⟩, fun c => ?_⟩
    · have es : slay S = (nI (sF S 4 0), slaid S) := by
        unfold slay
        rw [if_neg (fun q => q ok), if_neg (by omega)]
      have el : lc S (jn h al) = newc (sF S 4 0) (jn h al) := if_pos ⟨ok, c⟩
      have h65 : jl h7 65 pn = nL (sF S 4 0) := F7.1.1
      rw [h65, toInt32_nL]
      refine ⟨1, lsl S (jn h al), Nat.le_refl _, Nat.le_refl _, ?_⟩
      have ms : lsl S (jn h al) = if sF S 4 0 ≤ jn h7 al then 0 else newc (sF S 4 0) (jn h7 al) := by
        unfold lsl
        rw [n7]
        by_cases q : sF S 4 0 ≤ jn h al
        · rw [if_pos q, if_neg (by omega)]
        · rw [if_neg q, if_pos ⟨ok, c, by omega⟩]
      rw [ms]
      refine c_clear w10 w11 w12 w14 H7 c (fun h8 al' B8 nal ali sm8 H8 => ?_)
      rw [jkv_i]
      -- what clear leaves
      have al'n : ∀ c, jt h7 c ≠ 0 → jt h7 c ≠ 21 → c ≠ al' := fun c c0 c21 e => by
        rcases ali with ⟨e1, -⟩ | ⟨e1, -⟩
        · rw [e, e1] at c21; exact c21 w12
        · have := H7 c c0; omega
      have sm8' : ∀ c, jt h7 c ≠ 0 → jt h7 c ≠ 5 → jt h7 c ≠ 21 → Sm h7 h8 c := fun c c0 c5 c21 => sm8 c (fun e => by rw [e] at c5; exact c5 w10) (al'n c c0 c21)
      have R8 := R7.sm sm8'
      have F8 := F7.sm R7 sm8'
      have sx := sm8' x (by rw [w1]; decide) (by rw [w1]; decide) (by rw [w1]; decide)
      have hx8 : jt h8 x = 8 := by rw [sx.1]; exact w1
      have ht8 : jr h8 448 x = some tr := by rw [(sx.2.2.1 448).2.2]; exact w2
      have hs8 : jr h8 450 x = some so := by rw [(sx.2.2.1 450).2.2]; exact w4
      refine ⟨hx8, c_fillFirst R8 F8 W ok WLh Z hx8 ht8 hs8 B8 rfl (fun h9 FA9 B9 => ?_)⟩
      rw [jkv_i]
      have ha8 := B8.2.2.1
      have R9 := R8.fa ha8 FA9
      have F9 := F8.fa FA9
      have hx9 : jt h9 x = 8 := by rw [FA9.2.1]; exact hx8
      have ht9 : jr h9 448 x = some tr := by rw [FA9.2.2.2.2.2.1]; exact ht8
      have hs9 : jr h9 450 x = some so := by rw [FA9.2.2.2.2.2.1]; exact hs8
      refine ⟨hx9, c_fillOther R9 F9 W ok hx9 ht9 hs9 B9 (fst1_b8 _) rfl (fun h10 FA10 B10 b10 => ?_)⟩
      rw [jkv_i]
      have FA' := FA9.trans FA10
      have R10 := R8.fa ha8 FA'
      have F10 := F8.fa FA'
      obtain ⟨q1, q2, q3, q4, q5, q6, q7, q8, q9⟩ := FA'
      refine ⟨by rw [q2]; exact hx8, ?_⟩
      intro h11 e11
      have s11 : jr h11 450 x = some so := by rw [e11, jr_si, q6]; exact hs8
      have i11 : ji h11 257 so = nI (sF S 4 0) := by rw [e11, ji_si, if_neg (by omega)]; exact B10.2.2.2.2.2.1
      rw [s11, jd_s, i11]
      refine ⟨jsn, by rw [e11, jt_si]; exact B10.1, ?_⟩
      have t11 : jt h11 = jt h8 := by rw [e11, jt_si, q2]
      have z11 : jz h11 = jz h8 := by rw [e11, jz_si, q1]
      have n11 : jn h11 = jn h8 := by rw [e11, jn_si, q3]
      have r11 : jr h11 = jr h8 := by rw [e11, jr_si, q6]
      have l11 : jl h11 = jl h8 := by rw [e11, jl_si, q5]
      have k11 : ∀ k, k ≠ 451 → ji h11 k = ji h8 k := fun k hk => by
        funext c
        rw [e11, ji_si, if_neg (fun z => hk z.1), q4]
      have sp := sm8' pn (by rw [w8]; decide) (by rw [w8]; decide) (by rw [w8]; decide)
      have R11 : RTree h11 S tr rw ad := by rw [e11]; exact R10
      have z8 : jz h8 ≤ jz h + 1 := by
        rcases ali with ⟨-, e1⟩ | ⟨-, e1⟩ <;> omega
      have si : ∀ i, 1 ≤ i → i ≤ sN S → Sm h7 h8 (ad i) := fun i a b => sm8' _ (by rw [R7.ty a b]; decide) (by rw [R7.ty a b]; decide) (by rw [R7.ty a b]; decide)
      have blk : ∀ a, b1 ≤ a → a ≤ b2 → Sm h7 h8 a ∧ a ≠ al' := fun a a1 a2 => by
        have t := B7.2.1 a a1 a2
        have n0 : a ≠ al' := by
          rcases ali with ⟨e1, -⟩ | ⟨e1, -⟩
          · rw [e1]; omega
          · have := B7.1 (by omega); omega
        exact ⟨sm8 a (fun e => by rw [e, w10] at t; omega) n0, n0⟩
      have fb11 : FB b1 b2 h7 h11 := by
        refine Sm.fb (fun a a1 a2 => ?_)
        obtain ⟨s1, s2⟩ := blk a a1 a2
        have t := B7.2.1 a a1 a2
        have hax : a ≠ x := fun e => by rw [e, w1] at t; omega
        have sfa : Sm h8 h10 a := ⟨by rw [q2], by rw [q3], fun k => ⟨by rw [q4], by rw [q5], by rw [q6]⟩, fun i => ⟨by rw [q9 a s2], by rw [q7], by rw [q8]⟩⟩
        exact (s1.trans sfa).trans (Sm.si e11 hax)
      have := hQ h11 ?_ (fb7.trans fb11) (by rw [z11]; exact z8)
      · rw [es] at this; exact this
      · rw [es]
        refine ⟨tr, pn, so, rw, al', ad, ⟨?_, ?_, ?_, ?_, ?_, ?_, ?_, ?_, ?_, ?_, ?_, ?_, ?_, ?_, R11.sld, ?_, ⟨?_, ?_, ?_⟩, ⟨?_, ?_, ?_⟩, ?_⟩, ?_⟩
        · rw [t11]; exact hx8
        · rw [r11]; exact ht8
        · rw [r11, (sx.2.2.1 449).2.2]; exact w3
        · exact s11
        · rw [e11, ji_si, if_pos ⟨rfl, rfl⟩]; rfl
        · rw [k11 452 (by decide), (sx.2.2.1 452).1]; exact w6
        · rw [k11 453 (by decide), (sx.2.2.1 453).1]; exact w7
        · rw [t11, sp.1]; exact w8
        · rw [r11, (sp.2.2.1 64).2.2]; exact w9
        · rw [t11]; exact B8.1
        · rw [r11]; exact B8.2.1
        · rw [t11]; exact B8.2.2.1
        · rcases ali with ⟨e1, -⟩ | ⟨e1, -⟩
          · rw [e1]; exact w13
          · by_cases q : b1 ≤ b2
            · have := B7.1 q; omega
            · omega
        · rw [n11]; exact B8.2.2.2.2.1
        · intro a ha
          rw [t11] at ha
          rw [z11]; exact H8 a ha
        · intro q
          have := B7.1 q
          rw [z11]
          rcases ali with ⟨-, e1⟩ | ⟨-, e1⟩ <;> omega
        · intro a a1 a2
          rw [t11, (blk a a1 a2).1.1]; exact B7.2.1 a a1 a2
        · intro i r a b hr
          rw [r11, ((si i a b).2.2.1 14).2.2] at hr
          exact B7.2.2 i r a b hr
        · intro i j t a b c d hi hj
          rw [r11, ((si i a b).2.2.1 10).2.2] at hi
          rw [r11, ((si j c d).2.2.1 10).2.2] at hj
          exact J7.1 i j t a b c d hi hj
        · intro i j r q a b c d hi hj hne
          rw [r11, ((si i a b).2.2.1 14).2.2] at hi
          rw [r11, ((si j c d).2.2.1 14).2.2] at hj
          exact J7.2.1 i j r q a b c d hi hj hne
        · intro i a b q
          rw [k11 195 (by decide)]
          exact F8.1.2.2.2.2.1 i a b q
        · intro _
          have tt : tot (slaid S) = sF S 4 0 := rfl
          rw [tt]
          refine ⟨i11, c, by rw [n11]; exact B8.2.2.2.1, fun k hk => ?_, fun i a b => ?_⟩
          · rw [e11, jI_si]
            exact B10.2.2.2.2.2.2 k hk
          · rw [l11, k11 195 (by decide), r11]
            have e23 : pl (slaid S) i = if rn S i = 0 then sF S 0 i else sF S 0 (rn S i) := rfl
            have e24 : ln (slaid S) i = if rn S i = 0 then sF S 1 i - sF S 0 i else sF S 1 (rm S i) - sF S 0 (rn S i) := rfl
            have e25 : sd (slaid S) i = sF S 2 i := rfl
            have e26 : sk (slaid S) i = sF S 3 i := rfl
            have e27 : mv (slaid S) i = mvf S i := rfl
            rw [e23, e24, e25, e26, e27]
            have wl := WLh i a b
            refine ⟨fun n88 => ?_, ?_, (F8.2.2 i a b).1, (F8.2.2 i a b).2, fun t ht => ?_⟩
            · have n88 : ¬ lv S i = 88 := n88
              have b : i ≤ sN S := b
              by_cases h66 : lv S i = 66
              · have rg66 : rgt S (gU S) true (mfin S (gU S) true) i = rpt S (rn S i) (rm S i) := by
                  unfold rgt
                  rw [if_neg n88, if_pos h66]
                have hr := fwr_rgt ok a b
                rw [rg66] at hr
                obtain ⟨p1, p2, p3, p4, -⟩ := of_decide_eq_true hr
                obtain ⟨m1, m2⟩ := F8.2.1 i a b p1 p2
                have pp := P i a b p1
                obtain ⟨pa, pb, pc⟩ := P2 i a b p1
                have wn : rn S i ≤ sN S := R.wf.2.2.2.2.2.2.2.2.2.2.2.2.2.1 i
                have wm : rm S i ≤ sN S := R.wf.2.2.2.2.2.2.2.2.2.2.2.2.2.2.1 i
                have ge : sF S 0 (rn S i) ≤ sF S 1 (rm S i) := by
                  have lm1 := fin_b (b := true) W hN (i := rm S i) (by omega) wm (pp.2.2 p2)
                  by_cases eq : rn S i = rm S i
                  · rw [eq]; exact lm1.2.2.1
                  · have nn : onc S (rm S i) (rn S i) = false := by
                      rw [onc_step W.p (by omega), Bool.or_eq_false_iff]
                      exact ⟨decide_eq_false (by omega), pb⟩
                    have := g_ord W ok (rn S i + rm S i) (rn S i) (rm S i) (Nat.le_refl _) (by omega) (by omega) wm pp.2.1 (pp.2.2 p2) p3 p4 (Or.inl pc) nn
                    have l2 := lm1.2.2.1
                    exact Nat.le_trans (Nat.le_trans (Nat.le_add_right _ _) this) l2
                rw [if_neg p1, if_neg p1, m1, m2]
                refine ⟨rfl, ?_⟩
                congr 1
                have ge' : mfin S (gU S) true 0 (rn S i) ≤ mfin S (gU S) true 1 (rm S i) := ge
                show _ = mfin S (gU S) true 0 (rn S i) + (mfin S (gU S) true 1 (rm S i) - mfin S (gU S) true 0 (rn S i))
                omega
              · have ll : lies S i = true := by
                  unfold lies
                  rw [Bool.or_eq_true, decide_eq_true_eq, decide_eq_true_eq]
                  omega
                have rn0 : rn S i = 0 := by
                  by_cases q : rn S i = 0
                  · exact q
                  · exact absurd (P i a b q).1 h66
                obtain ⟨f1, f2, f3, f4, f5, f6, f7⟩ := fin_b (b := true) W hN a b ll
                obtain ⟨g1, g2, g3, g4⟩ := F8.1.2.2.1 i a b f1
                rw [if_pos rn0, if_pos rn0, g1, g2]
                refine ⟨rfl, ?_⟩
                congr 1
                show _ = mfin S (gU S) true 0 i + (mfin S (gU S) true 1 i - mfin S (gU S) true 0 i)
                omega
            · by_cases ll : lies S i = true
              · exact (F8.1.2.2.1 i a b (fin_b (b := true) W hN a b ll).1).2.2.1
              · have lf : lies S i = false := by simpa using ll
                have l66 : lv S i = 66 ∨ lv S i = 88 := by
                  unfold lies at lf
                  rw [Bool.or_eq_false_iff, decide_eq_false_iff_not, decide_eq_false_iff_not] at lf
                  omega
                have e3 : sF S 3 i = 0 := by
                  show mfin S (gU S) true 3 i = 0
                  rw [mfin_at W.p (by omega) b (Nat.le_refl _)]
                  exact fin_n3 W lf _ (Nat.le_refl _)
                rw [e3]
                exact F8.1.2.2.2.2.1 i a b l66
            · have y0 := (RT.le R8 a b ht).1
              have tm := W.tm y0
              have ll : lies S i = true := by
                unfold lies
                rw [decide_eq_true (by omega : lv S i < 50)]; rfl
              exact F8.1.2.2.2.1 i t a b (fin_b (b := true) W hN a b ll).2.1 ht
        · rw [n11, nal, n7, el]
    · refine hsun (-9) ?_ ?_
      · unfold slay
        rw [if_neg (fun q => q ok), if_pos (by omega)]
      · exact if_neg (fun q => c q.2)
  · rw [if_neg ok]
    refine ⟨fun c => ?_, fun _ => ?_⟩
    · have := congrArg Int32.toInt c
      rw [nI_toInt (by omega), show (-1 : Int32).toInt = -1 from rfl] at this
      omega
    · refine hsun _ ?_ ?_
      · exact if_pos ok
      · exact if_neg (fun q => ok q.1)
end Lay9
