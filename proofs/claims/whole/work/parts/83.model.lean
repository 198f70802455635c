/-! the reference lays out: pieces -/
/-- only what lay writes has changed -/
def FMl (m : Nat) (h h' : jh) : Prop := FMb m h h' ∧ (∀ k, k ≤ 535 → k ≠ 512 → k ≠ 512 → ji h' k m = ji h k m) ∧ ∀ j, j ≤ 19 → jI h' (m + j) = jI h (m + j)
/-- what the reference's rows hold of the machine's state -/
def HM (h : jh) (S : sg) (m : Nat) (G : Nat → Nat) (L : lm) : Prop := (∀ i, 1 ≤ i → i ≤ sN S → jI h (m + 26) i = nI (G i)) ∧
  (∀ i, 1 ≤ i → i ≤ sN S → L 6 i = 1 → jL h (m + 21) i = nL (L 0 i) ∧ jL h (m + 22) i = nL (L 1 i - L 0 i) ∧ jL h (m + 25) i = nL (L 3 i)) ∧
  (∀ i, 1 ≤ i → i ≤ sN S → ¬ L 6 i = 1 → jL h (m + 22) i = nL (byi S i)) ∧
  (∀ i, 1 ≤ i → i ≤ sN S → L 5 i = 1 → jL h (m + 24) i = nL (L 0 i + exf S (gU S) L i) ∧ (¬ tb S i = 0 → jL h (m + 23) i = nL (L 2 i)))
section ModA
variable {g : jg} {h h' h1 : jh} {S : sg} {m : Nat} {G : Nat → Nat} {L : lm} {Q : jq}
theorem FMl.rf : FMl m h h := ⟨FMb.rf, fun _ _ _ _ => rfl, fun _ _ => rfl⟩
theorem FMl.trans {h2 : jh} (p : FMl m h h1) (q : FMl m h1 h2) : FMl m h h2 := ⟨p.1.trans q.1, fun k a b c => (q.2.1 k a b c).trans (p.2.1 k a b c), fun j a => (q.2.2 j a).trans (p.2.2 j a)⟩
theorem FMl.sL {j i : Nat} {v : Int64} (e : h' = jsL h (m + j) i v) (h1 : 1 ≤ j) (h2 : j ≤ 27) : FMl m h h' := ⟨FMb.sL e h1 h2, fun _ _ _ _ => by rw [e]; rfl, fun _ _ => by rw [e]; rfl⟩
theorem FMl.sI {j i : Nat} {v : Int32} (e : h' = jsI h (m + j) i v) (h1 : 20 ≤ j) (h2 : j ≤ 27) : FMl m h h' := by
  refine ⟨FMb.sI e (by omega) h2, fun _ _ _ _ => by rw [e]; rfl, fun j' hj => ?_⟩
  rw [e]
  funext x
  rw [jI_sI, if_neg (by omega)]
theorem FMl.si {k : Nat} {v : Int32} (e : h' = jsi h k m v) (hk : 536 ≤ k ∨ k = 512) : FMl m h h' := by
  refine ⟨FMb.si e (by omega), fun k' a b c => ?_, fun _ _ => by rw [e]; rfl⟩
  rw [e, ji_si, if_neg (by omega)]
theorem RS.fl (R : RS h S m) (F : FMl m h h') : RS h' S m := by
  obtain ⟨a1, a2, -, a4, a5, a6, a7, a8, -⟩ := R
  obtain ⟨F1, F2, F3⟩ := F
  refine ⟨a1.fm F1, by rw [F2 513 (by decide) (by decide) (by decide)]; exact a2, trivial, by rw [F2 534 (by decide) (by decide) (by decide)]; exact a4, by rw [F2 535 (by decide) (by decide) (by decide)]; exact a5, fun j i x1 x2 x3 x4 => ?_, fun i x1 x2 => ?_, fun i k x1 x2 x3 => ?_, trivial⟩
  · rw [F3 j (by omega)]; exact a6 j i x1 x2 x3 x4
  · rw [F3 17 (by decide)]; exact a7 i x1 x2
  · rw [F3 18 (by decide), F3 19 (by decide)]; exact a8 i k x1 x2 x3
theorem RS.k21 (R : RS h S m) : jr h 539 m = some (m + 21) ∧ jt h (m + 21) = 22 ∧ jn h (m + 21) = 121 := R.p 21 (by decide) (by decide)
theorem RS.k22 (R : RS h S m) : jr h 540 m = some (m + 22) ∧ jt h (m + 22) = 22 ∧ jn h (m + 22) = 121 := R.p 22 (by decide) (by decide)
theorem RS.k23 (R : RS h S m) : jr h 541 m = some (m + 23) ∧ jt h (m + 23) = 22 ∧ jn h (m + 23) = 121 := R.p 23 (by decide) (by decide)
theorem RS.k24 (R : RS h S m) : jr h 542 m = some (m + 24) ∧ jt h (m + 24) = 22 ∧ jn h (m + 24) = 121 := R.p 24 (by decide) (by decide)
theorem RS.k25 (R : RS h S m) : jr h 543 m = some (m + 25) ∧ jt h (m + 25) = 22 ∧ jn h (m + 25) = 121 := R.p 25 (by decide) (by decide)
theorem RS.k26 (R : RS h S m) : jr h 544 m = some (m + 26) ∧ jt h (m + 26) = 20 ∧ jn h (m + 26) = 121 := R.p 26 (by decide) (by decide)
theorem rup_1 (v : Nat) : rup v 1 = v := by unfold rup; omega
theorem s_up {v G : Nat} (hv : v + 8 < 2 ^ 63) (hG : isU (max 1 G)) (hQ : Q (.inl (some (.inr (.inl (nL (rup v (max 1 G))))))) h) : jM g mX10_up [.inr (.inl (nL v)), .inl (nI G)] h 0 0 Q := by
  have hG8 := hG.le
  have z : (2 : Int32) ≤ nI G ↔ 2 ≤ G := nI_leI (a := 2) (by decide) (by omega)
  refine eX10_up ?_
  unfold VX10_up_0
  rw [z, nI_toInt64 (by omega)]
  refine ⟨fun c => ⟨fun q => ?_, ?_⟩, fun c => ?_⟩
  · have := (nL_eq (a := G) (b := 0) (by omega) (by decide)).mp q
    omega
  · rw [nL_add, show (1 : Int64) = nL 1 from rfl, nL_sub (by omega)]
    have e : nL (v + G - 1) / nL G = nL ((v + G - 1) / G) := pk_lDiv (by omega) (by omega) (by omega)
    rw [e, nL_mul]
    rw [show max 1 G = G by omega] at hQ
    exact hQ
  · rw [show max 1 G = 1 by omega, rup_1] at hQ; exact hQ
theorem s_bytesOf (R : RS h S m) (F : WF S) {i : Nat} (i1 : 1 ≤ i) (i2 : i ≤ 120) (hQ : Q (.inl (some (.inl (nI (byi S i))))) h) : jM g mX10_bytesOf [.inr (.inr (some m)), .inl (nI i)] h 0 0 Q := by
  obtain ⟨a1, a2, a3, a4⟩ := R.adg i1 i2
  obtain ⟨b1, b2, b3, b4⟩ := R.aus i1 i2
  have hu := F.us i
  have hd := F.dg i
  have zu : ∀ k : Nat, k < 100 → (nI (us S i) = nI k ↔ us S i = k) := fun k hk => nI_eq (by omega) (by omega)
  have z1 : nI (us S i) = 1 ↔ us S i = 1 := zu 1 (by decide)
  have z2 : nI (us S i) = 2 ↔ us S i = 2 := zu 2 (by decide)
  have z3 : nI (us S i) = 3 ↔ us S i = 3 := zu 3 (by decide)
  have z4 : nI (us S i) = 4 ↔ us S i = 4 := zu 4 (by decide)
  have z5 : nI (us S i) = 5 ↔ us S i = 5 := zu 5 (by decide)
  have z6 : nI (us S i) = 6 ↔ us S i = 6 := zu 6 (by decide)
  have z7 : nI (us S i) = 7 ↔ us S i = 7 := zu 7 (by decide)
  have z8 : nI (us S i) = 8 ↔ us S i = 8 := zu 8 (by decide)
  have z9 : nI (us S i) = 9 ↔ us S i = 9 := zu 9 (by decide)
  have z10 : nI (us S i) = 10 ↔ us S i = 10 := zu 10 (by decide)
  have z11 : nI (us S i) = 11 ↔ us S i = 11 := zu 11 (by decide)
  have d5 : (5 : Int32) ≤ nI (dg S i) ↔ 5 ≤ dg S i := nI_leI (a := 5) (by decide) (by omega)
  have d10 : (10 : Int32) ≤ nI (dg S i) ↔ 10 ≤ dg S i := nI_leI (a := 10) (by decide) (by omega)
  have dv : nI (dg S i) / 2 = nI (dg S i / 2) := pk_div (d := 2) (by omega) (by decide) (by decide)
  have ml : (2 : Int32) * nI (dg S i) = nI (2 * dg S i) := pk_mul 2 _
  refine eX10_bytesOf ⟨R.t, a1, a2, a3, b1, b2, b3, ?_⟩
  rw [b4, a4, z1, z2, z3, z4, z5, z6, z7, z8, z9, z10, z11, d5, d10, dv, ml, nI_1, nI_1, nI_toInt (by omega)]
  unfold byi byts at hQ
  refine ⟨fun c => ?_, fun c => ?_, fun c => ?_, fun c => ?_, fun c => ?_, fun c => ?_, fun c => ?_, fun c => ⟨fun c2 => ⟨fun c3 => ?_, fun c3 => ?_⟩, fun c2 => ?_⟩, fun c => ?_, fun c => ?_, fun c => ?_, fun c => ?_⟩
  · rw [if_pos (by omega)] at hQ; exact hQ
  · rw [if_neg (by omega), if_pos c] at hQ; exact hQ
  · rw [if_pos (by omega)] at hQ; exact hQ
  · rw [if_pos (by omega)] at hQ; exact hQ
  · rw [if_neg (by omega), if_neg (by omega), if_pos (by omega)] at hQ; exact hQ
  · rw [if_neg (by omega), if_neg (by omega), if_pos (by omega)] at hQ; exact hQ
  · rw [if_neg (by omega), if_neg (by omega), if_neg (by omega), if_pos c] at hQ; exact hQ
  · rw [if_neg (by omega), if_neg (by omega), if_neg (by omega), if_neg (by omega), if_pos c, if_neg (by omega), if_neg (by omega)] at hQ; exact hQ
  · rw [if_neg (by omega), if_neg (by omega), if_neg (by omega), if_neg (by omega), if_pos c, if_neg (by omega), if_pos (by omega)] at hQ; exact hQ
  · rw [if_neg (by omega), if_neg (by omega), if_neg (by omega), if_neg (by omega), if_pos c, if_pos (by omega)] at hQ; exact hQ
  · rw [if_neg (by omega), if_neg (by omega), if_neg (by omega), if_neg (by omega), if_neg (by omega), if_pos (by omega)] at hQ; exact hQ
  · rw [if_neg (by omega), if_neg (by omega), if_neg (by omega), if_neg (by omega), if_neg (by omega), if_neg (by omega), if_pos c] at hQ; exact hQ
  · rw [if_neg (by omega), if_neg (by omega), if_neg (by omega), if_neg (by omega), if_neg (by omega), if_pos (by omega)] at hQ; exact hQ
  · rw [if_neg (by omega), if_neg (by omega), if_neg (by omega), if_neg (by omega), if_neg (by omega), if_neg (by omega), if_neg (by omega)] at hQ; exact hQ
theorem s_firstOf (R : RS h S m) (W : WA S) {i : Nat} (i1 : 1 ≤ i) (i2 : i ≤ sN S) (hn : ¬ na S i = 0) (hQ : Q (.inl (some (.inl (nI (fnm S (na S i)))))) h) : jM g mX10_firstOf [.inr (.inr (some m)), .inl (nI i)] h 0 0 Q := by
  have hN := W.n
  have F := W.1
  have B := W.2.2.1
  obtain ⟨a1, a2, a3, a4⟩ := R.ana i1 i2 hN
  obtain ⟨f0, f1⟩ := fnm_min (S := S) i1 i2 rfl
  have w1 : na S i ≤ 100 := F.2.2.2.2.2.2.2.2.2.2.1 i
  have loop : ∀ n j, j + n = i + 1 → 1 ≤ j → j ≤ i → fstU (fun j => decide (na S j = na S i)) j (sN S + 1 - j) = fnm S (na S i) → jG g mX10_firstOf 2 [(0, .inr (.inr (some m))), (1, .inl (nI i)), (2, .inl (nI j))] [] h 0 0 Q := by
    intro n
    induction n with
    | zero => intro j e h1 h2; omega
    | succ n ih =>
      intro j e hj hji eq
      obtain ⟨b1, b2, b3, b4⟩ := R.ana (i := j) hj (by omega) hN
      obtain ⟨c1, c2, c3, c4⟩ := R.alv (i := j) hj (by omega)
      have w2 : na S j ≤ 100 := F.2.2.2.2.2.2.2.2.2.2.1 j
      have ze : nI (na S j) - 1 = nI (na S i) - 1 ↔ na S j = na S i := by
        rw [← Int32.toInt_inj, show (1 : Int32) = nI 1 from rfl, pk_sub_toInt (by omega) (by decide), pk_sub_toInt (by omega) (by decide)]; omega
      have zl : nI (lv S j) = 1 ↔ lv S j = 1 := nI_eq (b := 1) (by have := F.lv j; omega) (by decide)
      have es : fstU (fun j => decide (na S j = na S i)) j (sN S + 1 - j) = if decide (na S j = na S i) = true then j else fstU (fun j => decide (na S j = na S i)) (j + 1) (sN S + 1 - (j + 1)) := by
        obtain ⟨q, hq⟩ : ∃ q, sN S + 1 - j = q + 1 := ⟨sN S - j, by omega⟩
        have hq2 : sN S + 1 - (j + 1) = q := by omega
        rw [hq, hq2]; rfl
      rw [es] at eq
      refine vX10_firstOf_2 ⟨R.t, b1, b2, b3, a3, ?_⟩
      rw [b4, a4, ze, c4, zl, nI_1]
      refine ⟨fun y => ?_, fun y => ⟨c1, c2, c3, fun y2 => ?_, fun y2 => ?_⟩⟩
      · rw [decide_eq_false y, if_neg (by decide)] at eq
        have : ¬ j = i := fun q => y (by rw [q])
        exact ih (j + 1) (by omega) (by omega) (by omega) eq
      · rw [decide_eq_true y, if_pos rfl] at eq
        rw [← eq] at hQ; exact hQ
      · exact absurd (B.2.2.2.2.2.2.2.1 j (by rw [y]; exact hn)).2.2.1 y2
  exact eX10_firstOf (loop i 1 (by omega) (by omega) i1 (by unfold fnm; congr 1))
theorem s_align (R : RS h S m) (F : WF S) (H : HM h S m G L) {i : Nat} (i1 : 1 ≤ i) (i2 : i ≤ sN S) (hQ : Q (.inl (some (.inl (nI (if tb S i = 0 ∧ sy S i = 0 then 1 else G i))))) h) : jM g mX10_alignment [.inr (.inr (some m)), .inl (nI i)] h 0 0 Q := by
  have hN := F.1
  obtain ⟨a1, a2, a3, a4⟩ := R.atb i1 (by omega)
  obtain ⟨b1, b2, b3, b4⟩ := R.asy i1 (by omega)
  obtain ⟨k1, k2, k3⟩ := R.k26
  have wt := F.2.2.2.2.2.1 i
  have wy : sy S i ≤ 1 := F.2.2.2.2.2.2.2.2.2.2.2.2.2.2.2.1 i
  have zy : nI (sy S i) = 0 ↔ sy S i = 0 := nI_eq (b := 0) (by omega) (by decide)
  refine eX10_alignment ⟨R.t, a1, a2, a3, ?_⟩
  rw [a4, lt0 (by omega), b4, zy, k1, jd_s, k3, nI_clamp (by omega), H.1 i i1 i2]
  refine ⟨fun c => ⟨jsn, k2, vp_in_nI (by omega) (by decide), ?_⟩, fun c => ⟨b1, b2, b3, fun c2 => ?_, fun c2 => ⟨jsn, k2, vp_in_nI (by omega) (by decide), ?_⟩⟩⟩
  · rw [if_neg (by omega)] at hQ; exact hQ
  · rw [if_pos (by omega)] at hQ; exact hQ
  · rw [if_neg (by omega)] at hQ; exact hQ
end ModA
