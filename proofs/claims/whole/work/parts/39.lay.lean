/-! contracts: Plan, the pieces -/
/-- only what lay writes has changed -/
def FL (h h' : jh) : Prop := jz h' = jz h ∧ jt h' = jt h ∧ jn h' = jn h ∧ jI h' = jI h ∧ jL h' = jL h ∧ jR h' = jR h ∧ (∀ k, k ≠ 194 → k ≠ 195 → k ≠ 196 → ji h' k = ji h k) ∧ (∀ k, k ≠ 65 → k ≠ 192 → k ≠ 193 → k ≠ 324 → jl h' k = jl h k) ∧ ∀ k, k ≠ 197 → jr h' k = jr h k
theorem FL.rf {h : jh} : FL h h := ⟨rfl, rfl, rfl, rfl, rfl, rfl, fun _ _ _ _ => rfl, fun _ _ _ _ _ => rfl, fun _ _ => rfl⟩
theorem FL.trans {h h1 h2 : jh} (p : FL h h1) (q : FL h1 h2) : FL h h2 := by
  obtain ⟨p1, p2, p3, p4, p5, p6, p7, p8, p9⟩ := p
  obtain ⟨q1, q2, q3, q4, q5, q6, q7, q8, q9⟩ := q
  exact ⟨q1.trans p1, q2.trans p2, q3.trans p3, q4.trans p4, q5.trans p5, q6.trans p6, fun k a b c => (q7 k a b c).trans (p7 k a b c), fun k a b c d => (q8 k a b c d).trans (p8 k a b c d), fun k a => (q9 k a).trans (p9 k a)⟩
theorem FL.si {h h' : jh} {k a : Nat} {v : Int32} (e : h' = jsi h k a v) (hk : k = 194 ∨ k = 195 ∨ k = 196) : FL h h' := by
  subst e
  refine ⟨rfl, rfl, rfl, rfl, rfl, rfl, fun k' a1 a2 a3 => ?_, fun _ _ _ _ _ => rfl, fun _ _ => rfl⟩
  funext c
  rw [ji_si, if_neg (by omega)]
theorem FL.sl {h h' : jh} {k a : Nat} {v : Int64} (e : h' = jsl h k a v) (hk : k = 65 ∨ k = 192 ∨ k = 193 ∨ k = 324) : FL h h' := by
  subst e
  refine ⟨rfl, rfl, rfl, rfl, rfl, rfl, fun _ _ _ _ => rfl, fun k' a1 a2 a3 a4 => ?_, fun _ _ => rfl⟩
  funext c
  rw [jl_sl, if_neg (by omega)]
theorem FL.sr {h h' : jh} {a : Nat} {v : Option Nat} (e : h' = jsr h 197 a v) : FL h h' := by
  subst e
  refine ⟨rfl, rfl, rfl, rfl, rfl, rfl, fun _ _ _ _ => rfl, fun _ _ _ _ _ => rfl, fun k' a1 => ?_⟩
  funext c
  rw [jr_sr, if_neg (by omega)]
theorem RTree.fl {h h' : jh} {S : sg} {tr rw : Nat} {ad : Nat → Nat} (R : RTree h S tr rw ad) (F : FL h h') : RTree h' S tr rw ad := by
  obtain ⟨-, p2, p3, p4, p5, p6, p7, p8, p9⟩ := F
  obtain ⟨r1, r2, r3, r4, r5, r6, r7⟩ := R
  have i : ∀ k a, k ≠ 194 → k ≠ 195 → k ≠ 196 → ji h' k a = ji h k a := fun k a x y z => by rw [p7 k x y z]
  have r : ∀ k a, k ≠ 197 → jr h' k a = jr h k a := fun k a x => by rw [p9 k x]
  refine ⟨by rw [p2]; exact r1, by rw [r _ _ (by decide)]; exact r2, by rw [p2]; exact r3, by rw [p3]; exact r4, by rw [i _ _ (by decide) (by decide) (by decide)]; exact r5, r6, fun j a b => ?_⟩
  obtain ⟨⟨x1, x2, x3, x4, x5, x6, x7, x8, x9, x10, x11, x12, x13, x14, x15, x16, x17, x18, x19, x20, x21⟩, hT, hR⟩ := r7 j a b
  refine ⟨?_, ?_, ?_⟩
  · unfold RI
    rw [p6, p2]
    simp only [i _ _ (show (0 : Nat) ≠ 194 by decide) (show (0 : Nat) ≠ 195 by decide) (show (0 : Nat) ≠ 196 by decide), i _ _ (show (1 : Nat) ≠ 194 by decide) (show (1 : Nat) ≠ 195 by decide) (show (1 : Nat) ≠ 196 by decide), i _ _ (show (2 : Nat) ≠ 194 by decide) (show (2 : Nat) ≠ 195 by decide) (show (2 : Nat) ≠ 196 by decide), i _ _ (show (3 : Nat) ≠ 194 by decide) (show (3 : Nat) ≠ 195 by decide) (show (3 : Nat) ≠ 196 by decide), i _ _ (show (4 : Nat) ≠ 194 by decide) (show (4 : Nat) ≠ 195 by decide) (show (4 : Nat) ≠ 196 by decide), i _ _ (show (9 : Nat) ≠ 194 by decide) (show (9 : Nat) ≠ 195 by decide) (show (9 : Nat) ≠ 196 by decide), i _ _ (show (11 : Nat) ≠ 194 by decide) (show (11 : Nat) ≠ 195 by decide) (show (11 : Nat) ≠ 196 by decide), i _ _ (show (12 : Nat) ≠ 194 by decide) (show (12 : Nat) ≠ 195 by decide) (show (12 : Nat) ≠ 196 by decide), i _ _ (show (13 : Nat) ≠ 194 by decide) (show (13 : Nat) ≠ 195 by decide) (show (13 : Nat) ≠ 196 by decide), i _ _ (show (18 : Nat) ≠ 194 by decide) (show (18 : Nat) ≠ 195 by decide) (show (18 : Nat) ≠ 196 by decide), i _ _ (show (19 : Nat) ≠ 194 by decide) (show (19 : Nat) ≠ 195 by decide) (show (19 : Nat) ≠ 196 by decide), r _ _ (show (5 : Nat) ≠ 197 by decide), r _ _ (show (6 : Nat) ≠ 197 by decide), r _ _ (show (7 : Nat) ≠ 197 by decide), r _ _ (show (8 : Nat) ≠ 197 by decide), r _ _ (show (15 : Nat) ≠ 197 by decide), r _ _ (show (16 : Nat) ≠ 197 by decide), r _ _ (show (17 : Nat) ≠ 197 by decide)]
    exact ⟨x1, x2, x3, x4, x5, x6, x7, x8, x9, x10, x11, x12, x13, x14, x15, x16, x17, x18, x19, x20, x21⟩
  · unfold RT
    rw [p2]
    simp only [r _ _ (show (10 : Nat) ≠ 197 by decide), i _ _ (show (320 : Nat) ≠ 194 by decide) (show (320 : Nat) ≠ 195 by decide) (show (320 : Nat) ≠ 196 by decide), i _ _ (show (321 : Nat) ≠ 194 by decide) (show (321 : Nat) ≠ 195 by decide) (show (321 : Nat) ≠ 196 by decide), i _ _ (show (322 : Nat) ≠ 194 by decide) (show (322 : Nat) ≠ 195 by decide) (show (322 : Nat) ≠ 196 by decide), i _ _ (show (323 : Nat) ≠ 194 by decide) (show (323 : Nat) ≠ 195 by decide) (show (323 : Nat) ≠ 196 by decide)]
    exact hT
  · unfold RR
    rw [p2, p3, p4]
    simp only [r _ _ (show (14 : Nat) ≠ 197 by decide), r _ _ (show (128 : Nat) ≠ 197 by decide), r _ _ (show (129 : Nat) ≠ 197 by decide), i _ _ (show (130 : Nat) ≠ 194 by decide) (show (130 : Nat) ≠ 195 by decide) (show (130 : Nat) ≠ 196 by decide)]
    exact hR
/-- what the heap holds of the machine's state -/
def HL (h : jh) (S : sg) (pn : Nat) (ad : Nat → Nat) (U : Nat → Nat) (L : lm) : Prop := jl h 65 pn = nL (L 4 0) ∧ (∀ i, 1 ≤ i → i ≤ sN S → ji h 194 (ad i + 1) = nI (U i)) ∧
  (∀ i, 1 ≤ i → i ≤ sN S → L 6 i = 1 → jl h 192 (ad i + 1) = nL (L 0 i) ∧ jl h 193 (ad i + 1) = nL (L 1 i) ∧ ji h 195 (ad i + 1) = nI (L 3 i) ∧ ji h 196 (ad i + 1) = jb (lent S i)) ∧
  (∀ i t, 1 ≤ i → i ≤ sN S → L 5 i = 1 → jr h 10 (ad i) = some t → jl h 324 t = nL (L 2 i)) ∧
  (∀ i, 1 ≤ i → i ≤ sN S → lv S i = 66 ∨ lv S i = 88 → ji h 195 (ad i + 1) = 0) ∧
  (∀ i j t, 1 ≤ i → i ≤ sN S → 1 ≤ j → j ≤ sN S → jr h 10 (ad i) = some t → jr h 10 (ad j) = some t → i = j) ∧ jt h pn = 2 ∧ ∀ i, 1 ≤ i → i ≤ sN S → isU (U i)
section Lay1
variable {g : jg} {h : jh} {S : sg} {tr rw pn : Nat} {ad : Nat → Nat} {Q : jq} {U : Nat → Nat} {L : lm}
theorem RTree.ty (R : RTree h S tr rw ad) {i : Nat} (hi1 : 1 ≤ i) (hi2 : i ≤ sN S) : jt h (ad i) = 1 := (R.i hi1 hi2).2.1
theorem RTree.sp (R : RTree h S tr rw ad) {i : Nat} (hi1 : 1 ≤ i) (hi2 : i ≤ sN S) : jr h 7 (ad i) = some (ad i + 1) := (R.i hi1 hi2).2.2.2.2.2.2.2.2.2.1
theorem RTree.st (R : RTree h S tr rw ad) {i : Nat} (hi1 : 1 ≤ i) (hi2 : i ≤ sN S) : jt h (ad i + 1) = 4 := (R.i hi1 hi2).2.2.2.2.2.2.2.2.2.2.1
theorem RTree.pr (R : RTree h S tr rw ad) {i : Nat} (hi1 : 1 ≤ i) (hi2 : i ≤ sN S) : jr h 5 (ad i) = rO ad (cpa S i) := (R.i hi1 hi2).2.2.2.2.2.2.2.1
theorem RTree.syi (R : RTree h S tr rw ad) {i : Nat} (hi1 : 1 ≤ i) (hi2 : i ≤ sN S) : ji h 11 (ad i) = 0 ↔ sy S i = 0 := by
  rw [(R.i hi1 hi2).2.2.2.2.2.2.2.2.2.2.2.2.2.1, show (0 : Int32) = nI 0 from rfl, nI_eq (by have := R.wf.2.2.2.2.2.2.2.2.2.2.2.2.2.2.2.1 i; omega) (by decide)]
theorem byts_le {u n : Nat} (hn : n ≤ 200) : byts u n ≤ 400 := by
  unfold byts
  repeat' split
  all_goals omega
theorem RTree.bys (R : RTree h S tr rw ad) {i : Nat} (hi1 : 1 ≤ i) (hi2 : i ≤ sN S) : ji h 4 (ad i) = nI (byi S i) := (R.i hi1 hi2).2.2.2.2.2.2.1
theorem RTree.byl (R : RTree h S tr rw ad) (i : Nat) : byi S i ≤ 400 := byts_le (R.wf.dg i)
theorem RTree.adj (R : RTree h S tr rw ad) {i j : Nat} (hi1 : 1 ≤ i) (hi2 : i ≤ sN S) (hj1 : 1 ≤ j) (hj2 : j ≤ sN S) : ad i + 1 = ad j + 1 ↔ i = j := ⟨fun e => R.inj hi1 hi2 hj1 hj2 (by omega), fun e => by rw [e]⟩
theorem c_roundUp {n u : Nat} (hu : isU u) (hQ : Q (.inl (some (.inr (.inl (nL (rup n u)))))) h) : jM g mX3_roundUp [.inr (.inl (nL n)), .inl (nI u)] h 0 0 Q := by
  refine eX3_roundUp ?_
  unfold VX3_roundUp_0
  rw [rup_L hu]
  exact hQ
theorem c_length (R : RTree h S tr rw ad) {i p e : Nat} (hi1 : 1 ≤ i) (hi2 : i ≤ sN S) (h1 : jl h 192 (ad i + 1) = nL p) (h2 : jl h 193 (ad i + 1) = nL e) (hpe : p ≤ e) (hQ : Q (.inl (some (.inr (.inl (nL (e - p)))))) h) : jM g mX0_length [.inr (.inr (some (ad i)))] h 0 0 Q := by
  refine eX0_length ⟨R.ty hi1 hi2, ?_⟩
  rw [R.sp hi1 hi2, jd_s, h1, h2, nL_sub hpe]
  exact ⟨jsn, R.st hi1 hi2, hQ⟩
theorem c_extent (R : RTree h S tr rw ad) {i p e s : Nat} (hi1 : 1 ≤ i) (hi2 : i ≤ sN S) (h1 : jl h 192 (ad i + 1) = nL p) (h2 : jl h 193 (ad i + 1) = nL e) (hpe : p ≤ e) (h3 : ∀ t, jr h 10 (ad i) = some t → jl h 324 t = nL s) (hQ : Q (.inl (some (.inr (.inl (nL (if tb S i = 0 then e - p else mo S i * s)))))) h) : jM g mX0_extent [.inr (.inr (some (ad i)))] h 0 0 Q := by
  refine eX0_extent ⟨R.ty hi1 hi2, fun c => ?_, fun c => ?_⟩
  · obtain ⟨t, ht⟩ : ∃ t, jr h 10 (ad i) = some t := by
      cases hq : jr h 10 (ad i) with
      | none => exact absurd hq c
      | some t => exact ⟨t, rfl⟩
    obtain ⟨y0, y1, y2, y3, y4, y5⟩ := RT.le R hi1 hi2 ht
    have wmo := R.wf.2.2.2.2.2.2.1 i
    rw [ht, jd_s, y3, h3 t ht, nI_toInt64 (by omega), nL_mul]
    rw [if_neg y0] at hQ
    exact ⟨y1, hQ⟩
  · rw [if_pos ((RT.nn R hi1 hi2).mp c)] at hQ
    exact c_length R hi1 hi2 h1 h2 hpe hQ
theorem c_firstOfName (R : RTree h S tr rw ad) {v : Nat} (hv : v ≤ 100) (hQ : Q (.inl (some (.inr (.inr (rO ad (fnm S v)))))) h) : jM g mX8_firstOfName [.inr (.inr (some tr)), .inl (nI v - 1)] h 0 0 Q := by
  have hN := R.N
  have loop : ∀ n j, j + n = sN S + 1 → 1 ≤ j → Q (.inl (some (.inr (.inr (rO ad (fstU (fun j => decide (na S j = v)) j n)))))) h → jG g mX8_firstOfName 2 [(0, .inr (.inr (some tr))), (1, .inl (nI v - 1)), (2, .inl (nI j))] [] h 0 0 Q := by
    intro n
    induction n with
    | zero =>
      intro j e _ hq
      refine vX8_firstOfName_2 ⟨R.tg, ?_⟩
      rw [R.told]
      exact ⟨fun _ => hq, fun c => absurd (nI_lt (by omega) (by omega)) c⟩
    | succ n ih =>
      intro j e hj hq
      have hjN : j ≤ sN S := by omega
      obtain ⟨w1, w2, w3, w4⟩ := R.row (i := j) hj hjN
      have wna := R.wf.2.2.2.2.2.2.2.2.2.2.1 j
      have hn : ji h 19 (ad j) = nI v - 1 ↔ na S j = v := by
        rw [(R.i hj hjN).2.2.2.2.2.2.2.2.2.2.2.2.2.2.2.2.2.2.2.2, ← Int32.toInt_inj, show (1 : Int32) = nI 1 from rfl, pk_sub_toInt (by omega) (by decide), pk_sub_toInt (by omega) (by decide)]
        omega
      refine vX8_firstOfName_2 ⟨R.tg, ?_⟩
      rw [R.told, w4, jd_s, hn, nI_1]
      refine ⟨fun c => absurd c (nI_nlt (by omega) (by omega)), fun _ => ⟨w1, w2, w3, jsn, R.ty hj hjN, fun c => ?_, fun c => ?_⟩⟩
      · exact ih (j + 1) (by omega) (by omega) (by simpa [fstU, c] using hq)
      · rw [← rO_some (ad := ad) (show ¬ j = 0 by omega)]
        simpa [fstU, c] using hq
  exact eX8_firstOfName (loop (sN S) 1 (by omega) (by omega) hQ)
theorem fstU_le {f : Nat → Bool} : ∀ n lo, fstU f lo n < lo + n ∨ fstU f lo n = 0 := by
  intro n
  induction n with
  | zero => intro lo; right; rfl
  | succ n ih =>
    intro lo
    unfold fstU
    split
    · left; omega
    · have := ih (lo + 1); omega
theorem fstU_f {f : Nat → Bool} : ∀ n lo, 1 ≤ lo → ¬ fstU f lo n = 0 → f (fstU f lo n) = true ∧ lo ≤ fstU f lo n := by
  intro n
  induction n with
  | zero => intro lo _ h; exact absurd rfl h
  | succ n ih =>
    intro lo hlo h
    unfold fstU at h ⊢
    split
    · rename_i hc; exact ⟨hc, Nat.le_refl _⟩
    · rename_i hc
      rw [if_neg hc] at h
      have := ih (lo + 1) (by omega) h
      exact ⟨this.1, by omega⟩
theorem fstU_min {f : Nat → Bool} : ∀ n lo j, 1 ≤ lo → lo ≤ j → j < lo + n → f j = true → ¬ fstU f lo n = 0 ∧ fstU f lo n ≤ j := by
  intro n
  induction n with
  | zero => intro lo j _ h1 h2; omega
  | succ n ih =>
    intro lo j hlo h1 h2 hf
    unfold fstU
    split
    · omega
    · rename_i hc
      by_cases e : j = lo
      · rw [e] at hf; exact absurd hf hc
      · exact ih (lo + 1) j (by omega) (by omega) (by omega) hf
theorem fnm_le (S : sg) (v : Nat) : fnm S v ≤ sN S := by
  have := fstU_le (f := fun j => decide (na S j = v)) (sN S) 1
  unfold fnm; omega
theorem fnm_min {v j : Nat} (h1 : 1 ≤ j) (h2 : j ≤ sN S) (hv : na S j = v) : ¬ fnm S v = 0 ∧ fnm S v ≤ j := fstU_min (sN S) 1 j (Nat.le_refl _) h1 (by omega) (decide_eq_true hv)
theorem fnm_na {v : Nat} (h : ¬ fnm S v = 0) : na S (fnm S v) = v := of_decide_eq_true (fstU_f (sN S) 1 (Nat.le_refl _) h).1
end Lay1
