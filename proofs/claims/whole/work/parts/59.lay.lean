/-! lay -/
/-- what lay leaves: not laid out, laid out -/
def sun (S : sg) : sg := (fun a i => if a = 17 then 0 else S.1 a i, S.2)
def sF (S : sg) : lm := mfin S (gU S) true
def slaid (S : sg) : sg := (fun a i => if a = 17 then 1 else if a = 23 then (if rn S i = 0 then sF S 0 i else sF S 0 (rn S i)) else if a = 24 then (if rn S i = 0 then sF S 1 i - sF S 0 i else sF S 1 (rm S i) - sF S 0 (rn S i)) else if a = 25 then sF S 2 i else if a = 26 then sF S 3 i else if a = 27 then mvf S i else if a = 28 then sF S 4 0 else S.1 a i, fun k i => if k = 30 then byA S (sF S) (ibt S) i else S.2 k i)
def slay (S : sg) : Int32 × sg := if ¬ fwr S (gU S) true = 0 then (-10 - nI (fwr S (gU S) true), sun S) else if 20000 < sF S 4 0 then (-9, sun S) else (nI (sF S 4 0), slaid S)
def lc (S : sg) (c : Nat) : Nat := if fwr S (gU S) true = 0 ∧ sF S 4 0 ≤ 20000 then newc (sF S 4 0) c else c
def lsl (S : sg) (c : Nat) : Nat := if fwr S (gU S) true = 0 ∧ sF S 4 0 ≤ 20000 ∧ c < sF S 4 0 then newc (sF S 4 0) c else 0
/-- parts that are renamed -/
def WP2 (S : sg) : Prop := ∀ i, 1 ≤ i → i ≤ sN S → ¬ rn S i = 0 → rn S i ≤ rm S i ∧ bel S (rm S i) (rn S i) = false ∧ ∃ r, onc S (rn S i) r = true ∧ onc S (rm S i) r = true
section Lay8
variable {g : jg} {h h' : jh} {S : sg} {x b1 b2 tr rw pn so al n : Nat} {ad : Nat → Nat} {A : Nat → Int32} {Q : jq}
theorem RTree.sm (R : RTree h S tr rw ad) (hs : ∀ c, jt h c ≠ 0 → jt h c ≠ 5 → jt h c ≠ 21 → Sm h h' c) : RTree h' S tr rw ad := by
  obtain ⟨r1, r2, r3, r4, r5, r6, r7⟩ := id R
  have st := hs tr (by rw [r1]; decide) (by rw [r1]; decide) (by rw [r1]; decide)
  have sw := hs rw (by rw [r3]; decide) (by rw [r3]; decide) (by rw [r3]; decide)
  refine ⟨st.1.trans r1, ((st.2.2.1 384).2.2).trans r2, sw.1.trans r3, sw.2.1.trans r4, ((st.2.2.1 385).1).trans r5, r6, fun i a b => ?_⟩
  obtain ⟨⟨x1, x2, x3, x4, x5, x6, x7, x8, x9, x10, x11, x12, x13, x14, x15, x16, x17, x18, x19, x20, x21⟩, hT, hR⟩ := r7 i a b
  have si := hs (ad i) (by rw [x2]; decide) (by rw [x2]; decide) (by rw [x2]; decide)
  have sp := hs (ad i + 1) (by rw [x11]; decide) (by rw [x11]; decide) (by rw [x11]; decide)
  have ki : ∀ k, ji h' k (ad i) = ji h k (ad i) := fun k => (si.2.2.1 k).1
  have kr : ∀ k, jr h' k (ad i) = jr h k (ad i) := fun k => (si.2.2.1 k).2.2
  refine ⟨⟨((sw.2.2.2 i).2.2).trans x1, si.1.trans x2, (ki 0).trans x3, (ki 1).trans x4, (ki 2).trans x5, (ki 3).trans x6, (ki 4).trans x7, (kr 5).trans x8, (kr 6).trans x9, (kr 7).trans x10, sp.1.trans x11, (kr 8).trans x12, (ki 9).trans x13, (ki 11).trans x14, (ki 12).trans x15, (ki 13).trans x16, (kr 15).trans x17, (kr 16).trans x18, (kr 17).trans x19, (ki 18).trans x20, (ki 19).trans x21⟩, ⟨fun q => (kr 10).trans (hT.1 q), fun q => ?_⟩, ⟨fun q => (kr 14).trans (hR.1 q), fun q => ?_⟩⟩
  · obtain ⟨t, y1, y2, y3, y4, y5, y6⟩ := hT.2 q
    have s := hs t (by rw [y2]; decide) (by rw [y2]; decide) (by rw [y2]; decide)
    exact ⟨t, (kr 10).trans y1, s.1.trans y2, ((s.2.2.1 320).1).trans y3, ((s.2.2.1 321).1).trans y4, ((s.2.2.1 322).1).trans y5, ((s.2.2.1 323).1).trans y6⟩
  · obtain ⟨r, y1, y2, y3, y4, y5, y6, y7, y8, y9, y10⟩ := hR.2 q
    have s0 := hs r (by rw [y2]; decide) (by rw [y2]; decide) (by rw [y2]; decide)
    have s1 := hs (r + 1) (by rw [y5]; decide) (by rw [y5]; decide) (by rw [y5]; decide)
    have s2 := hs (r + 2) (by rw [y6]; decide) (by rw [y6]; decide) (by rw [y6]; decide)
    exact ⟨r, (kr 14).trans y1, s0.1.trans y2, ((s0.2.2.1 128).2.2).trans y3, ((s0.2.2.1 129).2.2).trans y4, s1.1.trans y5, s2.1.trans y6, s1.2.1.trans y7, s2.2.1.trans y8, ((s0.2.2.1 130).1).trans y9, fun k hk => ⟨((s1.2.2.2 k).1).trans (y10 k hk).1, ((s2.2.2.2 k).1).trans (y10 k hk).2⟩⟩
theorem HF.sm (R : RTree h S tr rw ad) (F : HF h S pn ad) (hs : ∀ c, jt h c ≠ 0 → jt h c ≠ 5 → jt h c ≠ 21 → Sm h h' c) : HF h' S pn ad := by
  obtain ⟨⟨y1, y2, y3, y4, y5, y6, y7, y8⟩, f2, f3⟩ := F
  have sp := hs pn (by rw [y7]; decide) (by rw [y7]; decide) (by rw [y7]; decide)
  have si : ∀ i, 1 ≤ i → i ≤ sN S → Sm h h' (ad i) := fun i a b => hs _ (by rw [R.ty a b]; decide) (by rw [R.ty a b]; decide) (by rw [R.ty a b]; decide)
  have ss : ∀ i, 1 ≤ i → i ≤ sN S → Sm h h' (ad i + 1) := fun i a b => hs _ (by rw [R.st a b]; decide) (by rw [R.st a b]; decide) (by rw [R.st a b]; decide)
  refine ⟨⟨by rw [(sp.2.2.1 65).2.1]; exact y1, fun i a b => by rw [((ss i a b).2.2.1 194).1]; exact y2 i a b, fun i a b q => ?_, fun i t a b q z => ?_, fun i a b q => by rw [((ss i a b).2.2.1 195).1]; exact y5 i a b q, fun i j t a b c d z f => ?_, by rw [sp.1]; exact y7, y8⟩, fun i a b c d => ?_, fun i a b => ⟨(f3 i a b).1, ?_⟩⟩
  · rw [((ss i a b).2.2.1 192).2.1, ((ss i a b).2.2.1 193).2.1, ((ss i a b).2.2.1 195).1, ((ss i a b).2.2.1 196).1]
    exact y3 i a b q
  · rw [((si i a b).2.2.1 10).2.2] at z
    have tt := (RT.le R a b z).2.1
    have st := hs t (by rw [tt]; decide) (by rw [tt]; decide) (by rw [tt]; decide)
    rw [(st.2.2.1 324).2.1]
    exact y4 i t a b q z
  · rw [((si i a b).2.2.1 10).2.2] at z
    rw [((si j c d).2.2.1 10).2.2] at f
    exact y6 i j t a b c d z f
  · rw [((ss i a b).2.2.1 192).2.1, ((ss i a b).2.2.1 193).2.1]
    exact f2 i a b c d
  · rw [((ss i a b).2.2.1 197).2.2, (f3 i a b).2]
    by_cases q : mvf S i = 0
    · rw [if_pos q, if_pos q]
    · rw [if_neg q, if_neg q, ((si (mvf S i) (by omega) (f3 i a b).1).2.2.1 10).2.2]
theorem FL.fb (F : FL h h') : FB b1 b2 h h' := by
  obtain ⟨-, p2, p3, p4, p5, p6, p7, p8, p9⟩ := F
  intro a _ _
  refine ⟨by rw [p2], by rw [p3], fun k hk => ⟨by rw [p7 k (by omega) (by omega) (by omega)], by rw [p8 k (by omega) (by omega) (by omega) (by omega)], by rw [p9 k (by omega)]⟩, fun i => ⟨by rw [p4], by rw [p5], by rw [p6]⟩⟩
theorem RCx.fl (C : RCx h S x b1 b2 tr pn so rw al ad) (hl : laid S = 0) (F : FL h h') (h66 : ∀ i, 1 ≤ i → i ≤ sN S → lv S i = 66 ∨ lv S i = 88 → ji h' 195 (ad i + 1) = 0) : RCx h' S x b1 b2 tr pn so rw al ad := by
  obtain ⟨x1, x2, x3, x4, x5, x6, x7, x8, x9, x10, x11, x12, x13, x14, R, H, B, J, L⟩ := C
  have R' := R.fl F
  obtain ⟨p1, p2, p3, p4, p5, p6, p7, p8, p9⟩ := F
  have i : ∀ k, k ≠ 194 → k ≠ 195 → k ≠ 196 → ji h' k = ji h k := p7
  have r : ∀ k, k ≠ 197 → jr h' k = jr h k := p9
  refine ⟨by rw [p2]; exact x1, by rw [r 448 (by decide)]; exact x2, by rw [r 449 (by decide)]; exact x3, by rw [r 450 (by decide)]; exact x4, by rw [i 451 (by decide) (by decide) (by decide)]; exact x5, by rw [i 452 (by decide) (by decide) (by decide)]; exact x6, by rw [i 453 (by decide) (by decide) (by decide)]; exact x7, by rw [p2]; exact x8, by rw [r 64 (by decide)]; exact x9, by rw [p2]; exact x10, by rw [r 256 (by decide)]; exact x11, by rw [p2]; exact x12, x13, by rw [p3]; exact x14, R', ?_, ⟨?_, ?_, ?_⟩, ⟨?_, ?_, h66⟩, ?_⟩
  · intro a ha
    rw [p2] at ha
    rw [p1]; exact H a ha
  · rw [p1]; exact B.1
  · rw [p2]; exact B.2.1
  · rw [r 14 (by decide)]; exact B.2.2
  · rw [r 10 (by decide)]; exact J.1
  · rw [r 14 (by decide)]; exact J.2.1
  · intro q; rw [hl] at q; cases q
theorem fin_n3 {U : Nat → Nat} {b : Bool} (W : WB S U) {i : Nat} (hl : lies S i = false) : ∀ m, m ≤ sN S → mst S U b m 3 i = 0 := by
  intro m
  induction m with
  | zero => intro _; rfl
  | succ m ih =>
    intro hm
    have := ih (by omega)
    rw [mst_succ]
    split
    · rename_i c
      have : ¬ i = m + 1 := fun e => by rw [e, c] at hl; cases hl
      rw [beg_3, if_neg this, fup_at W.p (by omega)]
      exact ih (by omega)
    · exact this
theorem RTree.sld (R : RTree h S tr rw ad) : RTree h (slaid S) tr rw ad := by
  obtain ⟨r1, r2, r3, r4, r5, r6, r7⟩ := R
  refine ⟨r1, r2, r3, r4, r5, r6, fun i a b => ?_⟩
  obtain ⟨hI, hT, hR⟩ := r7 i a b
  refine ⟨hI, hT, hR.1, fun q => ?_⟩
  obtain ⟨r, y1, y2, y3, y4, y5, y6, y7, y8, y9, y10⟩ := hR.2 q
  have h8 : rg S i ≤ 8 := r6.2.2.2.2.2.2.2.2.2.1 i
  refine ⟨r, y1, y2, y3, y4, y5, y6, y7, y8, y9, fun k hk => ?_⟩
  have hk' : k < rg S i := hk
  have e1 : rf (slaid S) k i = rf S k i := by
    show (if 1 + k = 30 then _ else _) = _
    rw [if_neg (by omega)]; rfl
  have e2 : rt (slaid S) k i = rt S k i := by
    show (if 11 + k = 30 then _ else _) = _
    rw [if_neg (by omega)]; rfl
  rw [e1, e2]
  exact y10 k hk'
end Lay8
