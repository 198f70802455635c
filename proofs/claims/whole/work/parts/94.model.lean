/-! the reference's readers: place, size, refer, slack -/
section ModM
variable {g : jg} {h h' h1 : jh} {S : sg} {m : Nat} {Q : jq}
/-- what it answers when it doesn't refuse: 1 -/
def rfu (S : sg) (x : Int32) (b : Bool) : Int32 := if refus S (fnd S x) b = 0 then 1 else refus S (fnd S x) b
theorem RM.ld (M : RM h S m) (W : WA S) : ji h 533 m = 0 ↔ laid S = 0 := by
  have := W.2.2.2.2.2.1.1
  rw [M.2.2.1]
  exact nI_eq (b := 0) (by omega) (by decide)
theorem m_refused (M : RM h S m) (W : WA S) {x : Int32} {b : Bool} (hQ : Q (.inl (some (.inl (rfu S x b)))) h) : jM g mX10_refused [.inr (.inr (some m)), .inl x, .inl (jb b)] h 0 0 Q := by
  have hN := W.n
  have F := W.1
  have go : ∀ v w, refus S (fnd S x) b = v → (if v = 0 then 1 else v) = w → Q (.inl (some (.inl w))) h := by
    intro v w e1 e2
    unfold rfu at hQ
    rw [e1, e2] at hQ
    exact hQ
  refine eX10_refused ⟨M.t, m_is M hN ?_⟩
  rw [jki_i, jb_0, jb_0, M.ld W]
  refine ⟨fun c => ?_, fun c => ?_⟩
  · have hf : ¬ fnd S x = 0 := by simpa using c
    have ex := fnd_eq hN hf
    have le := fnd_le S x hN
    obtain ⟨a1, a2, a3, a4⟩ := M.alv (i := fnd S x) (by omega) (by omega)
    rw [← ex] at a3 a4
    have wl := F.lv (fnd S x)
    have e88 : nI (lv S (fnd S x)) = 88 ↔ lv S (fnd S x) = 88 := nI_eq (b := 88) (by omega) (by decide)
    have e66 : nI (lv S (fnd S x)) = 66 ↔ lv S (fnd S x) = 66 := nI_eq (b := 66) (by omega) (by decide)
    rw [a4, e88, e66]
    have g4 : lv S (fnd S x) = 88 ∨ (b = true ∧ lv S (fnd S x) = 66) → Q (.inl (some (.inl (-4)))) h := fun q => go (-4) _ (by unfold refus; rw [if_neg hf, if_pos q]) rfl
    have g5 : ¬ (lv S (fnd S x) = 88 ∨ (b = true ∧ lv S (fnd S x) = 66)) → laid S = 0 → Q (.inl (some (.inl (-5)))) h := fun q q2 => go (-5) _ (by unfold refus; rw [if_neg hf, if_neg q, if_pos q2]) rfl
    have g1 : ¬ (lv S (fnd S x) = 88 ∨ (b = true ∧ lv S (fnd S x) = 66)) → ¬ laid S = 0 → Q (.inl (some (.inl 1))) h := fun q q2 => go 0 _ (by unfold refus; rw [if_neg hf, if_neg q, if_neg q2]) rfl
    refine ⟨M.t, a1, a2, a3, fun q => g4 (Or.inl q), fun q => ⟨fun qb => ?_, fun qb => ⟨fun q6 => ?_, fun q6 => g4 (Or.inr ⟨by simpa using qb, q6⟩)⟩⟩⟩
    · have n : ¬ (lv S (fnd S x) = 88 ∨ (b = true ∧ lv S (fnd S x) = 66)) := by
        rintro (w | ⟨w, -⟩)
        · exact q w
        · rw [qb] at w; cases w
      exact ⟨g5 n, g1 n⟩
    · have n : ¬ (lv S (fnd S x) = 88 ∨ (b = true ∧ lv S (fnd S x) = 66)) := by
        rintro (w | ⟨-, w⟩)
        · exact q w
        · exact q6 w
      exact ⟨g5 n, g1 n⟩
  · have hf : fnd S x = 0 := by simpa using c
    exact go (-2) _ (by unfold refus; rw [if_pos hf]) rfl
theorem rfu_0 (S : sg) (x : Int32) (b : Bool) : 0 ≤ rfu S x b ↔ refus S (fnd S x) b = 0 := by
  unfold rfu
  by_cases c : refus S (fnd S x) b = 0
  · rw [if_pos c]
    exact ⟨fun _ => c, fun _ => by decide⟩
  · rw [if_neg c]
    refine ⟨fun z => ?_, fun z => absurd z c⟩
    unfold refus at z c ⊢
    split at z
    · exact absurd z (by decide)
    · split at z
      · exact absurd z (by decide)
      · split at z
        · exact absurd z (by decide)
        · rename_i z1 z2 z3
          rw [if_neg z1, if_neg z2, if_neg z3]
/-- a state that is laid out: what it says of items -/
theorem WA.ren (W : WA S) (hd : ¬ laid S = 0) {i : Nat} (i1 : 1 ≤ i) (i2 : i ≤ sN S) (h6 : lv S i = 66) : ¬ rn S i = 0 ∧ aside S (rn S i) = false ∧ aside S (rm S i) = false ∧ lies S (rn S i) = true ∧ lies S (rm S i) = true ∧ 1 ≤ rn S i ∧ rn S i ≤ sN S ∧ 1 ≤ rm S i ∧ rm S i ≤ sN S ∧ rn S (rn S i) = 0 ∧ rn S (rm S i) = 0 ∧ sF S 0 (rn S i) ≤ sF S 1 (rm S i) := by
  obtain ⟨l1, l2⟩ := W.2.2.2.2.2.1
  obtain ⟨ok, -⟩ := l2 (by omega)
  have B := W.2.2.1
  have rr := fwr_rgt ok i1 i2
  unfold rgt at rr
  rw [if_neg (by omega), if_pos h6] at rr
  have r := of_decide_eq_true rr
  obtain ⟨b1, b2, b3, b4, b5, b6, b7, b8, b9, b10, b11⟩ := (B.2.2.2.2.2.2.2.2.1 i).2 r.1
  have ln1 : lies S (rn S i) = true := lies_mk (Or.inl (by omega))
  have lm1 : lies S (rm S i) = true := lies_mk (Or.inl (by omega))
  have z : ∀ j, lv S j ≤ 49 → rn S j = 0 := fun j hj => by
    by_cases w : rn S j = 0
    · exact w
    · have := ((B.2.2.2.2.2.2.2.2.1 j).2 w).2.2.1; omega
  refine ⟨r.1, r.2.2.1, r.2.2.2.1, ln1, lm1, by omega, by omega, by omega, b6, z _ b7.2, z _ b8.2, ?_⟩
  have WBh := W.wb
  show mfin S (gU S) true 0 (rn S i) ≤ mfin S (gU S) true 1 (rm S i)
  have x1 := len_xtn WBh (i := rm S i) (by omega) b6 lm1
  by_cases e : rn S i = rm S i
  · rw [e]; omega
  · obtain ⟨-, p2, p3⟩ := WP2_of W.1 W.2.1 B i i1 i2 r.1
    have no : onc S (rm S i) (rn S i) = false := by
      rw [onc_step WBh.p (by omega), decide_eq_false (fun w => e w.symm)]
      exact p2
    have := g_ord WBh ok _ (rn S i) (rm S i) (Nat.le_refl _) (by omega) (by omega) b6 ln1 lm1 r.2.2.1 r.2.2.2.1 (Or.inl p3) no
    omega
theorem WA.plc (W : WA S) (hd : ¬ laid S = 0) (i : Nat) : fwr S (gU S) true = 0 ∧ pl S i = (if rn S i = 0 then sF S 0 i else sF S 0 (rn S i)) ∧ ln S i = (if rn S i = 0 then sF S 1 i - sF S 0 i else sF S 1 (rm S i) - sF S 0 (rn S i)) ∧ sd S i = sF S 2 i ∧ mv S i = mvf S i := by
  obtain ⟨l1, l2⟩ := W.2.2.2.2.2.1
  obtain ⟨ok, -, -, l3⟩ := l2 (by omega)
  obtain ⟨p1, p2, p3, p4, p5⟩ := l3 i
  exact ⟨ok, p1, p2, p3, p5⟩
theorem RM.rl (M : RM h S m) (W : WA S) (hd : ¬ laid S = 0) {i : Nat} (i1 : 1 ≤ i) (i2 : i ≤ sN S) (hl : lies S i = true) : jL h (m + 21) i = nL (pl S i) ∧ jL h (m + 22) i = nL (ln S i) ∧ (¬ tb S i = 0 → jL h (m + 23) i = nL (sd S i)) ∧ jL h (m + 25) i = nL (sk S i) := by
  have := W.2.2.2.2.2.1.1
  exact (M.2.2.2.2.2.2.2.2 (by omega)).2.2.2 i i1 i2 hl
theorem WA.li (W : WA S) {i : Nat} (i1 : 1 ≤ i) (i2 : i ≤ sN S) (h1 : ¬ lv S i = 88) (h2 : ¬ lv S i = 66) : lies S i = true := by
  have := WL_of W.2.1 i i1 i2
  exact lies_mk (by omega)
theorem m_placeOf (M : RM h S m) (W : WA S) (hd : ¬ laid S = 0) {i : Nat} (i1 : 1 ≤ i) (i2 : i ≤ sN S) (h8 : ¬ lv S i = 88) (hQ : Q (.inl (some (.inr (.inl (nL (pl S i)))))) h) : jM g mX10_placeOf [.inr (.inr (some m)), .inl (nI i)] h 0 0 Q := by
  have hN := W.n
  obtain ⟨a1, a2, a3, a4⟩ := M.alv i1 (by omega)
  obtain ⟨k1, k2, k3⟩ := M.s.k21
  have wl := W.1.lv i
  have e66 : nI (lv S i) = 66 ↔ lv S i = 66 := nI_eq (b := 66) (by omega) (by decide)
  refine eX10_placeOf ⟨M.t, a1, a2, a3, ?_⟩
  rw [a4, e66, k1, jd_s, k3]
  refine ⟨fun c => ⟨jsn, k2, vp_in_nI (by omega) (by decide), ?_⟩, fun c => ?_⟩
  · rw [nI_clamp (by omega), (M.rl W hd i1 i2 (W.li i1 i2 h8 c)).1]; exact hQ
  · obtain ⟨r1, r2, r3, r4, r5, r6, r7, r8, r9, r10, r11, r12⟩ := W.ren hd i1 i2 c
    obtain ⟨b1, b2, b3, b4⟩ := M.arn i1 (by omega)
    rw [b4]
    refine ⟨b1, b2, b3, jsn, k2, vp_in_nI (by omega) (by decide), ?_⟩
    rw [nI_clamp (by omega), (M.rl W hd r6 r7 r4).1, (W.plc hd (rn S i)).2.1, if_pos r10]
    rw [(W.plc hd i).2.1, if_neg r1] at hQ
    exact hQ
theorem m_sizeOf (M : RM h S m) (W : WA S) (hd : ¬ laid S = 0) {i : Nat} (i1 : 1 ≤ i) (i2 : i ≤ sN S) (h8 : ¬ lv S i = 88) (hQ : Q (.inl (some (.inr (.inl (nL (ssz S i)))))) h) : jM g mX10_sizeOf [.inr (.inr (some m)), .inl (nI i)] h 0 0 Q := by
  have hN := W.n
  have hp := W.wb.p
  have F := W.1
  have WBh := W.wb
  have D := WD_of W.1 W.2.1 W.2.2.1
  obtain ⟨a1, a2, a3, a4⟩ := M.alv i1 (by omega)
  obtain ⟨k1, k2, k3⟩ := M.s.k21
  obtain ⟨l1, l2, l3⟩ := M.s.k22
  obtain ⟨n1, n2, n3⟩ := M.s.k23
  obtain ⟨ok, wp, wn, ws, wm⟩ := W.plc hd i
  have wl := W.1.lv i
  have e66 : nI (lv S i) = 66 ↔ lv S i = 66 := nI_eq (b := 66) (by omega) (by decide)
  refine eX10_sizeOf ⟨M.t, a1, a2, a3, ?_⟩
  rw [a4, e66]
  refine ⟨fun c => ?_, fun c => ?_⟩
  · have hl := W.li i1 i2 h8 c
    obtain ⟨v1, v2, v3, v4⟩ := M.rl W hd i1 i2 hl
    have r0 : rn S i = 0 := by
      by_cases w : rn S i = 0
      · exact w
      · have := ((W.2.2.1.2.2.2.2.2.2.2.2.1 i).2 w).2.2.1; omega
    rw [if_pos r0] at wp wn
    have key : ∀ t, 1 ≤ t → t ≤ sN S → tb S t = 2 → mk S t i = true → mvf S i = t := by
      intro t t1 t2 tt tm
      rcases mvf_mk (S := S) i with ⟨q1, q2⟩ | ⟨q1, q2, q3, q4⟩
      · rw [q2 t t1 t2 tt] at tm; cases tm
      · exact mv_one WBh D ok q1 q2 q3 t1 t2 tt q4 tm
    have l51 : ∀ r t, t + r = sN S + 1 → 1 ≤ t → (∀ t', i < t' → t' < t → tb S t' = 2 → mk S t' i = false) → i < t → jG g mX10_sizeOf 51 [(0, .inr (.inr (some m))), (1, .inl (nI i)), (2, .inl (nI t))] [] h 0 0 Q := by
      intro r
      induction r with
      | zero =>
        intro t ht t1 hn hit
        have et : t = sN S + 1 := by omega
        subst et
        refine vX10_sizeOf_51 ⟨M.t, fun _ => ?_, fun q => absurd (by rw [M.2.1, nI_ltI (by omega) (by omega)]; omega) q⟩
        have z : mv S i = 0 := by
          rw [wm]
          rcases mvf_mk (S := S) i with ⟨q1, -⟩ | ⟨q1, q2, q3, q4⟩
          · exact q1
          · have o := onc_le hp _ _ (mk_onc hp _ _ (by omega) q4)
            have o2 := hp (mvf S i) (by omega)
            rw [hn (mvf S i) (by omega) (by omega) q3] at q4; cases q4
        rw [l1, jd_s, l3, nI_clamp (by omega), v2]
        refine ⟨jsn, l2, vp_in_nI (by omega) (by decide), ?_⟩
        unfold ssz at hQ
        rw [if_pos z] at hQ; exact hQ
      | succ r ih =>
        intro t ht t1 hn hit
        have next : (tb S t = 2 → mk S t i = false) → jG g mX10_sizeOf 51 [(0, .inr (.inr (some m))), (1, .inl (nI i)), (2, .inl (nI (t + 1)))] [] h 0 0 Q := fun no => ih (t + 1) (by omega) (by omega) (fun t' p1 p2 p3 => by
          by_cases w : t' = t
          · subst w; exact no p3
          · exact hn t' p1 (by omega) p3) (by omega)
        refine vX10_sizeOf_51 ⟨M.t, fun q => absurd q (by rw [M.2.1, nI_ltI (by omega) (by omega)]; omega), fun _ => s_lies M.s F t1 (by omega) ?_⟩
        rw [jki_i, jb_0, nI_1]
        refine ⟨fun lt => next (fun tt => ?_), fun lt => ?_⟩
        · have := WBh.tm (i := t) (by omega)
          have l2' : lies S t = true := lies_mk (Or.inl (by omega))
          rw [lt] at l2'; cases l2'
        · have lt' : lies S t = true := by simpa using lt
          obtain ⟨b1, b2, b3, b4⟩ := M.atb (i := t) t1 (by omega)
          have wt := F.2.2.2.2.2.1 t
          have e2 : nI (tb S t) = 2 ↔ tb S t = 2 := nI_eq (b := 2) (by omega) (by decide)
          refine ⟨M.t, b1, b2, b3, ?_⟩
          rw [b4, e2]
          refine ⟨fun tt => next (fun w => absurd w tt), fun tt => s_below M.s W t1 (by omega) lt' i1 (by omega) ?_⟩
          rw [jki_i, jb_0]
          refine ⟨fun bl => ?_, fun bl => next (fun _ => ?_)⟩
          · have bl' : onc S (cpa S t) i = true := by
              have : bel S t i = true := by simpa using bl
              exact this
            -- up to i, or to one that redefines
            have l91 : ∀ c, 1 ≤ c → c ≤ sN S → lies S c = true → (c = i ∨ onc S (cpa S c) i = true) → (mk S t i = if c = i then true else mk S c i) → jG g mX10_sizeOf 91 [(0, .inr (.inr (some m))), (1, .inl (nI i)), (2, .inl (nI t)), (3, .inl (nI c))] [] h 0 0 Q := by
              intro c
              induction c using Nat.strongRecOn with
              | _ c ihc =>
                intro c1 c2 cl co ce
                refine vX10_sizeOf_91 ?_
                unfold VX10_sizeOf_91
                have ec : nI c = nI i ↔ c = i := nI_eq (by omega) (by omega)
                have h115 : (c = i ∨ ¬ ot S c = 0) → VX10_sizeOf_115 g m (nI i) (nI t) (nI c) h 0 0 Q := by
                  intro w
                  unfold VX10_sizeOf_115
                  rw [ec, nI_1]
                  refine ⟨fun nc => next (fun _ => ?_), fun yc => ?_⟩
                  · rw [ce, if_neg nc, mk_step hp (by omega), if_pos (Or.inl (w.resolve_left nc))]
                  · rw [if_pos yc] at ce
                    have em := key t t1 (by omega) tt ce
                    obtain ⟨x1, x2, x3, x4⟩ := M.rl W hd t1 (by omega) lt'
                    obtain ⟨y1, y2, y3, y4⟩ := M.anw (i := t) t1 (by omega)
                    obtain ⟨-, tp, -, ts, -⟩ := W.plc hd t
                    have rt0 : rn S t = 0 := by
                      by_cases w : rn S t = 0
                      · exact w
                      · have := ((W.2.2.1.2.2.2.2.2.2.2.2.1 t).2 w).2.2.1
                        have := WBh.tm (i := t) (by omega)
                        omega
                    rw [if_pos rt0] at tp
                    have wnw : nw S t ≤ mo S t := F.2.2.2.2.2.2.2.1 t
                    have wmo : mo S t ≤ 999 := F.2.2.2.2.2.2.1 t
                    have ml := mv_len WBh D ok (p := i) (by omega)
                    rw [em] at ml
                    have lx := len_xtn WBh i1 i2 hl
                    have pin := (off_in WBh ok t i (by omega) lt' (onc_up hp (by omega) bl') (f := fun _ => 0) (fun t' _ q => by have := (WBh.tm q).1; show 0 < _; omega)).1
                    have e0 : sF S 0 i ≤ sF S 0 t := pin
                    have ml' : sF S 1 i = sF S 0 t + mo S t * sF S 2 t := ml
                    obtain ⟨d, hdd⟩ : ∃ d, mo S t = nw S t + d := ⟨mo S t - nw S t, by omega⟩
                    have em2 : mo S t * sF S 2 t = nw S t * sF S 2 t + d * sF S 2 t := by rw [hdd, Nat.add_mul]
                    have ez : sF S 0 t + nw S t * sF S 2 t - sF S 0 i = ssz S i := by
                      unfold ssz
                      rw [if_neg (by rw [wm, em]; omega), wm, em, wn, ts, hdd, Nat.add_sub_cancel_left]
                      omega
                    rw [k1, jd_s, k3, n1, jd_s, n3, y4, nI_clamp (by omega), nI_clamp (by omega), x1, x3 (by omega), v1, nI_toInt64 (by omega), nL_mul, nL_add, tp, ts, wp, nL_sub (by omega), ez]
                    exact ⟨M.t, jsn, k2, vp_in_nI (by omega) (by decide), y1, y2, y3, jsn, n2, vp_in_nI (by omega) (by decide), vp_in_nI (by omega) (by decide), hQ⟩
                rw [ec]
                refine ⟨fun w => h115 (Or.inl w), fun w => ?_⟩
                have co' := co.resolve_left w
                obtain ⟨o1, o2, o3, o4⟩ := M.aot (i := c) c1 (by omega)
                obtain ⟨p1, p2, p3, p4⟩ := M.apa (i := c) c1 (by omega)
                have wo : ot S c < c ∨ ot S c = 0 := F.2.2.2.2.2.2.2.2.2.2.2.2.1 c
                have zo : nI (ot S c) = 0 ↔ ot S c = 0 := nI_eq (b := 0) (by omega) (by decide)
                obtain ⟨x1, x2, x3⟩ := W.nx (c := c) (by omega) c2 (Or.inr cl)
                refine ⟨M.t, o1, o2, o3, ?_⟩
                rw [o4, zo]
                refine ⟨fun w2 => h115 (Or.inr w2), fun w2 => ⟨p1, p2, p3, ?_⟩⟩
                rw [p4, x1]
                have cn : ¬ cpa S c = 0 := fun z => by rw [z] at co'; cases co'
                refine ihc _ x2 (by omega) (by omega) (x3.resolve_left cn) ?_ ?_
                · rcases onc_or hp co' with q | q
                  · exact Or.inl q.symm
                  · exact Or.inr q
                · rw [ce, if_neg w, mk_step hp (by omega), if_neg (by omega)]
                  by_cases q : cpa S c = i
                  · rw [decide_eq_true q, if_pos q]; rfl
                  · rw [decide_eq_false q, if_neg q]; rfl
            exact l91 t t1 (by omega) lt' (Or.inr bl') (by rw [if_neg (by omega)])
          · cases q : mk S t i with
            | false => rfl
            | true =>
              have : bel S t i = true := mk_onc hp _ _ (by omega) q
              rw [bl] at this; cases this
    have := l51 (sN S - i) (i + 1) (by omega) (by omega) (fun t' p1 p2 => by omega) (by omega)
    rw [← nI_1] at this
    exact this
  · obtain ⟨r1, r2, r3, r4, r5, r6, r7, r8, r9, r10, r11, r12⟩ := W.ren hd i1 i2 c
    obtain ⟨b1, b2, b3, b4⟩ := M.arn i1 (by omega)
    obtain ⟨c1, c2, c3, c4⟩ := M.arm i1 (by omega)
    obtain ⟨v1, v2, v3, v4⟩ := M.rl W hd r8 r9 r5
    obtain ⟨u1, u2, u3, u4⟩ := M.rl W hd r6 r7 r4
    obtain ⟨-, np, nn, -⟩ := W.plc hd (rn S i)
    obtain ⟨-, mp, mn, -⟩ := W.plc hd (rm S i)
    rw [if_pos r10] at np nn
    rw [if_pos r11] at mp mn
    rw [if_neg r1] at wp wn
    have z : mv S i = 0 := by
      rw [wm]
      rcases mvf_mk (S := S) i with ⟨q1, -⟩ | ⟨q1, q2, q3, q4⟩
      · exact q1
      · have o := mk_onc hp _ _ (by omega) q4
        have tl : lies S (mvf S i) = true := by
          have := WBh.tm (i := mvf S i) (by omega)
          exact lies_mk (Or.inl (by omega))
        have := lies_onc WBh (mvf S i) i q2 tl (onc_up hp (by omega) o)
        have := lies_of this
        omega
    have lx := len_xtn WBh r8 r9 r5
    have lx' : sF S 0 (rm S i) ≤ sF S 1 (rm S i) := by
      have : mfin S (gU S) true 0 (rm S i) ≤ mfin S (gU S) true 1 (rm S i) := by omega
      exact this
    have ez : pl S (rm S i) + ln S (rm S i) - pl S (rn S i) = ssz S i := by
      unfold ssz
      rw [if_pos z, wn, mp, mn, np]; omega
    rw [c4, b4, k1, jd_s, k3, l1, jd_s, l3, nI_clamp (by omega), nI_clamp (by omega), v1, v2, u1, nL_add, nL_sub (by rw [mp, mn, np]; omega), ez]
    exact ⟨c1, c2, c3, jsn, k2, vp_in_nI (by omega) (by decide), jsn, l2, vp_in_nI (by omega) (by decide), b1, b2, b3, vp_in_nI (by omega) (by decide), hQ⟩
end ModM
