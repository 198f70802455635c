/-! contracts: clause -/
/-- cells of ours stay (others may have come): the class's state stays -/
theorem RCx.grow {h h' : jh} {S : sg} {x b1 b2 tr pl so rw al : Nat} {ad : Nat → Nat} (C : RCx h S x b1 b2 tr pl so rw al ad) (hz : jz h ≤ jz h') (H' : HW h') (hs : ∀ c, jt h c ≠ 0 → Sm h h' c) : RCx h' S x b1 b2 tr pl so rw al ad ∧ FB b1 b2 h h' := by
  obtain ⟨x1, x2, x3, x4, x5, x6, x7, x8, x9, x10, x11, x12, x13, x14, R, H, B, J, L⟩ := id C
  obtain ⟨r1, r2, r3, r4, r5, r6, r7⟩ := id R
  have st := hs tr (by rw [r1]; decide)
  have sw := hs rw (by rw [r3]; decide)
  have sx := hs x (by rw [x1]; decide)
  have sp := hs pl (by rw [x8]; decide)
  have so' := hs so (by rw [x10]; decide)
  have sa := hs al (by rw [x12]; decide)
  have si : ∀ i, 1 ≤ i → i ≤ sN S → Sm h h' (ad i) := fun i a b => hs (ad i) (by rw [(r7 i a b).1.2.1]; decide)
  have ss : ∀ i, 1 ≤ i → i ≤ sN S → Sm h h' (ad i + 1) := fun i a b => hs (ad i + 1) (by rw [(r7 i a b).1.2.2.2.2.2.2.2.2.2.2.1]; decide)
  have tbt : ∀ i t, 1 ≤ i → i ≤ sN S → jr h 10 (ad i) = some t → Sm h h' t := fun i t a b e => hs t (by rw [(RT.le R a b e).2.1]; decide)
  refine ⟨⟨sx.1.trans x1, ((sx.2.2.1 448).2.2).trans x2, ((sx.2.2.1 449).2.2).trans x3, ((sx.2.2.1 450).2.2).trans x4, ((sx.2.2.1 451).1).trans x5, ((sx.2.2.1 452).1).trans x6, ((sx.2.2.1 453).1).trans x7, sp.1.trans x8, ((sp.2.2.1 64).2.2).trans x9, so'.1.trans x10, ((so'.2.2.1 256).2.2).trans x11, sa.1.trans x12, x13, by rw [sa.2.1]; exact x14, ⟨st.1.trans r1, ((st.2.2.1 384).2.2).trans r2, sw.1.trans r3, sw.2.1.trans r4, ((st.2.2.1 385).1).trans r5, r6, fun i a b => ?_⟩, H', ⟨fun q => by have := B.1 q; omega, fun a p q => ?_, fun i r a b e => ?_⟩, ⟨fun i j t a b c d e f => ?_, fun i j r q a b c d e f => ?_, fun i a b e => ?_⟩, ?_⟩, Sm.fb fun a p q => hs a (by have := B.2.1 a p q; omega)⟩
  · obtain ⟨⟨x1, x2, x3, x4, x5, x6, x7, x8, x9, x10, x11, x12, x13, x14, x15, x16, x17, x18, x19, x20, x21⟩, hT, hR⟩ := r7 i a b
    have ki : ∀ k, ji h' k (ad i) = ji h k (ad i) := fun k => ((si i a b).2.2.1 k).1
    have kr : ∀ k, jr h' k (ad i) = jr h k (ad i) := fun k => ((si i a b).2.2.1 k).2.2
    refine ⟨⟨((sw.2.2.2 i).2.2).trans x1, (si i a b).1.trans x2, (ki 0).trans x3, (ki 1).trans x4, (ki 2).trans x5, (ki 3).trans x6, (ki 4).trans x7, (kr 5).trans x8, (kr 6).trans x9, (kr 7).trans x10, (ss i a b).1.trans x11, (kr 8).trans x12, (ki 9).trans x13, (ki 11).trans x14, (ki 12).trans x15, (ki 13).trans x16, (kr 15).trans x17, (kr 16).trans x18, (kr 17).trans x19, (ki 18).trans x20, (ki 19).trans x21⟩, ⟨fun q => (kr 10).trans (hT.1 q), fun q => ?_⟩, ⟨fun q => (kr 14).trans (hR.1 q), fun q => ?_⟩⟩
    · obtain ⟨t, y1, y2, y3, y4, y5, y6⟩ := hT.2 q
      have s := hs t (by rw [y2]; decide)
      exact ⟨t, (kr 10).trans y1, s.1.trans y2, ((s.2.2.1 320).1).trans y3, ((s.2.2.1 321).1).trans y4, ((s.2.2.1 322).1).trans y5, ((s.2.2.1 323).1).trans y6⟩
    · obtain ⟨r, y1, y2, y3, y4, y5, y6, y7, y8, y9, y10⟩ := hR.2 q
      have s0 := hs r (by rw [y2]; decide)
      have s1 := hs (r + 1) (by rw [y5]; decide)
      have s2 := hs (r + 2) (by rw [y6]; decide)
      exact ⟨r, (kr 14).trans y1, s0.1.trans y2, ((s0.2.2.1 128).2.2).trans y3, ((s0.2.2.1 129).2.2).trans y4, s1.1.trans y5, s2.1.trans y6, s1.2.1.trans y7, s2.2.1.trans y8, ((s0.2.2.1 130).1).trans y9, fun k hk => ⟨((s1.2.2.2 k).1).trans (y10 k hk).1, ((s2.2.2.2 k).1).trans (y10 k hk).2⟩⟩
  · have := B.2.1 a p q
    rw [(hs a (by omega)).1]; exact this
  · rw [((si i a b).2.2.1 14).2.2] at e
    exact B.2.2 i r a b e
  · rw [((si i a b).2.2.1 10).2.2] at e
    rw [((si j c d).2.2.1 10).2.2] at f
    exact J.1 i j t a b c d e f
  · rw [((si i a b).2.2.1 14).2.2] at e
    rw [((si j c d).2.2.1 14).2.2] at f
    exact J.2.1 i j r q a b c d e f
  · rw [((ss i a b).2.2.1 195).1]; exact J.2.2 i a b e
  · intro q
    obtain ⟨l1, l2, l3, l4, l5⟩ := L q
    refine ⟨((so'.2.2.1 257).1).trans l1, l2, by rw [sa.2.1]; exact l3, fun i hi => ((sa.2.2.2 i).1).trans (l4 i hi), fun i a b => ?_⟩
    obtain ⟨m1, m2, m5, m3, m4⟩ := l5 i a b
    refine ⟨fun hl => ⟨(((ss i a b).2.2.1 192).2.1).trans (m1 hl).1, (((ss i a b).2.2.1 193).2.1).trans (m1 hl).2⟩, (((ss i a b).2.2.1 195).1).trans m2, m5, ?_, fun t e => ?_⟩
    · rw [((ss i a b).2.2.1 197).2.2, m3]
      by_cases q0 : mv S i = 0
      · rw [if_pos q0, if_pos q0]
      · rw [if_neg q0, if_neg q0]
        rw [((si (mv S i) (by omega) m5).2.2.1 10).2.2]
    · rw [((si i a b).2.2.1 10).2.2] at e
      rw [((tbt i t a b e).2.2.1 324).2.1]
      exact m4 t e
/-- i becomes a table: t 1, or 2 (it depends); at least a, at most m -/
def stab (S : sg) (i t a m : Nat) : sg := (fun k j => if k = 6 ∧ j = i then t else if k = 7 ∧ j = i then a else if k = 8 ∧ j = i then m else if k = 9 ∧ j = i then m else if k = 17 then 0 else S.1 k j, S.2)
/-- one range more -/
def srg (S : sg) (i : Nat) (a b : Int32) : sg := (fun k j => if k = 12 ∧ j = i then rg S i + 1 else if k = 17 then 0 else S.1 k j, fun k j => if k = 1 + rg S i ∧ j = i then a else if k = 11 + rg S i ∧ j = i then b else S.2 k j)
section Cla1
variable {g : jg} {h : jh} {S : sg} {x b1 b2 tr pl so rw al : Nat} {ad : Nat → Nat} {Q : jq}
theorem RCx.tab (C : RCx h S x b1 b2 tr pl so rw al ad) {i z t a m : Nat} (hi1 : 1 ≤ i) (hi2 : i ≤ sN S) (h0 : tb S i = 0) (ht : t = 1 ∨ t = 2) (ha : a ≤ m) (hm : m ≤ 999) (z1 : jt h z = 6) (z2 : ji h 320 z = nI a) (z3 : ji h 321 z = nI m) (z4 : ji h 322 z = if t = 2 then 1 else 0) (z5 : ji h 323 z = nI m) (fr : ∀ j, 1 ≤ j → j ≤ sN S → ¬ jr h 10 (ad j) = some z) : RCx (jsi (jsr h 10 (ad i) (some z)) 451 x 0) (stab S i t a m) x b1 b2 tr pl so rw al ad := by
  obtain ⟨x1, x2, x3, x4, x5, x6, x7, x8, x9, x10, x11, x12, x13, x14, R, H, B, J, L⟩ := id C
  obtain ⟨r1, r2, r3, r4, r5, r6, r7⟩ := id R
  have e6 : ∀ j, tb (stab S i t a m) j = if j = i then t else tb S j := fun j => by unfold tb stab; simp
  have e7 : ∀ j, le (stab S i t a m) j = if j = i then a else le S j := fun j => by unfold le stab; simp
  have e8 : ∀ j, mo (stab S i t a m) j = if j = i then m else mo S j := fun j => by unfold mo stab; simp
  have e9 : ∀ j, nw (stab S i t a m) j = if j = i then m else nw S j := fun j => by unfold nw stab; simp
  have rr : ∀ j, 1 ≤ j → j ≤ sN S → jr (jsi (jsr h 10 (ad i) (some z)) 451 x 0) 10 (ad j) = if j = i then some z else jr h 10 (ad j) := fun j p q => by
    rw [jr_si, jr_sr]
    by_cases w : j = i
    · rw [if_pos ⟨rfl, by rw [w]⟩, if_pos w]
    · rw [if_neg (fun y => w (R.inj p q hi1 hi2 y.2)), if_neg w]
  refine ⟨x1, x2, x3, x4, by rw [ji_si, if_pos ⟨rfl, rfl⟩]; rfl, x6, x7, x8, x9, x10, x11, x12, x13, x14, ⟨r1, r2, r3, r4, r5, ?_, fun j p q => ⟨(r7 j p q).1, ?_, (r7 j p q).2.2⟩⟩, H, B, ⟨?_, J.2.1, J.2.2⟩, ?_⟩
  · obtain ⟨f1, f2, f3, f4, f5, f6, f7, f8, f9, f10, f11, f12, f13, f14, f15, f16, f17, f18, f19⟩ := r6
    refine ⟨f1, f2, f3, f4, f5, fun j => ?_, fun j => ?_, fun j => ?_, fun j => ?_, f10, f11, f12, f13, f14, f15, f16, f17, f18, f19⟩
    · rw [e6]; split; omega; exact f6 j
    · rw [e8]; split; omega; exact f7 j
    · rw [e8, e9]; split; omega; exact f8 j
    · rw [e7, e8]; split; omega; exact f9 j
  · unfold RT
    rw [e6, e7, e8, e9, rr j p q]
    by_cases w : j = i
    · simp only [if_pos w]
      exact ⟨fun y => by omega, fun _ => ⟨z, rfl, z1, z2, z3, z4, z5⟩⟩
    · simp only [if_neg w]
      exact (r7 j p q).2.1
  · intro u v w a1 a2 c1 c2 hu hv
    rw [rr u a1 a2] at hu
    rw [rr v c1 c2] at hv
    by_cases wu : u = i
    · by_cases wv : v = i
      · omega
      · rw [if_pos wu] at hu
        rw [if_neg wv] at hv
        cases hu
        exact absurd hv (fr v c1 c2)
    · by_cases wv : v = i
      · rw [if_neg wu] at hu
        rw [if_pos wv] at hv
        cases hv
        exact absurd hu (fr u a1 a2)
      · rw [if_neg wu] at hu
        rw [if_neg wv] at hv
        exact J.1 u v w a1 a2 c1 c2 hu hv
  · intro q; cases q
theorem RCx.rng (C : RCx h S x b1 b2 tr pl so rw al ad) {i r : Nat} {a b : Int32} (hi1 : 1 ≤ i) (hi2 : i ≤ sN S) (h8 : rg S i < 8) (z1 : jt h r = 3) (z2 : jr h 128 r = some (r + 1)) (z3 : jr h 129 r = some (r + 2)) (z4 : jt h (r + 1) = 20) (z5 : jt h (r + 2) = 20) (z6 : jn h (r + 1) = 8) (z7 : jn h (r + 2) = 8) (z8 : ∀ k, k < rg S i → jI h (r + 1) k = rf S k i ∧ jI h (r + 2) k = rt S k i)
    (o1 : (r + 1 < b1 ∨ b2 < r + 1) ∧ (r + 2 < b1 ∨ b2 < r + 2)) (fr : ∀ j q, 1 ≤ j → j ≤ sN S → j ≠ i → jr h 14 (ad j) = some q → r + 1 ≠ q + 1 ∧ r + 1 ≠ q + 2 ∧ r ≠ q ∧ q + 1 ≠ r + 2) :
    RCx (jsi (jsi (jsI (jsI (jsr h 14 (ad i) (some r)) (r + 1) (rg S i) a) (r + 2) (rg S i) b) 130 r (nI (rg S i + 1))) 451 x 0) (srg S i a b) x b1 b2 tr pl so rw al ad ∧ FB b1 b2 h (jsi (jsi (jsI (jsI (jsr h 14 (ad i) (some r)) (r + 1) (rg S i) a) (r + 2) (rg S i) b) 130 r (nI (rg S i + 1))) 451 x 0) := by
  obtain ⟨x1, x2, x3, x4, x5, x6, x7, x8, x9, x10, x11, x12, x13, x14, R, H, B, J, L⟩ := id C
  obtain ⟨r1, r2, r3, r4, r5, r6, r7⟩ := id R
  generalize hh : jsi (jsi (jsI (jsI (jsr h 14 (ad i) (some r)) (r + 1) (rg S i) a) (r + 2) (rg S i) b) 130 r (nI (rg S i + 1))) 451 x 0 = h'
  have e12 : ∀ j, rg (srg S i a b) j = if j = i then rg S i + 1 else rg S j := fun j => by unfold srg rg; simp
  have erf : ∀ k j, k < 8 → rf (srg S i a b) k j = if k = rg S i ∧ j = i then a else rf S k j := fun k j hk => by
    show (if 1 + k = 1 + rg S i ∧ j = i then a else if 1 + k = 11 + rg S i ∧ j = i then b else S.2 (1 + k) j) = _
    by_cases w : k = rg S i ∧ j = i
    · rw [if_pos (by omega), if_pos w]
    · rw [if_neg (by omega), if_neg (by omega), if_neg w]; rfl
  have ert : ∀ k j, k < 8 → rt (srg S i a b) k j = if k = rg S i ∧ j = i then b else rt S k j := fun k j hk => by
    show (if 11 + k = 1 + rg S i ∧ j = i then a else if 11 + k = 11 + rg S i ∧ j = i then b else S.2 (11 + k) j) = _
    by_cases w : k = rg S i ∧ j = i
    · rw [if_neg (by omega), if_pos (by omega), if_pos w]
    · rw [if_neg (by omega), if_neg (by omega), if_neg w]; rfl
  have rr : ∀ j, 1 ≤ j → j ≤ sN S → jr h' 14 (ad j) = if j = i then some r else jr h 14 (ad j) := fun j p q => by
    rw [← hh, jr_si, jr_si, jr_sI, jr_sI, jr_sr]
    by_cases w : j = i
    · rw [if_pos ⟨rfl, by rw [w]⟩, if_pos w]
    · rw [if_neg (fun y => w (R.inj p q hi1 hi2 y.2)), if_neg w]
  have kI : ∀ c k, jI h' c k = if c = r + 2 ∧ k = rg S i then b else if c = r + 1 ∧ k = rg S i then a else jI h c k := fun c k => by
    rw [← hh, jI_si, jI_si, jI_sI, jI_sI]; rfl
  have k130 : ∀ c, ji h' 130 c = if c = r then nI (rg S i + 1) else ji h 130 c := fun c => by
    rw [← hh, ji_si, if_neg (by omega), ji_si]
    simp only [true_and]
    rfl
  refine ⟨⟨?_, ?_, ?_, ?_, ?_, ?_, ?_, ?_, ?_, ?_, ?_, ?_, x13, ?_, ⟨?_, ?_, ?_, ?_, ?_, ?_, fun j p q => ⟨?_, ?_, ?_⟩⟩, ?_, ⟨?_, ?_, ?_⟩, ⟨?_, ?_, ?_⟩, ?_⟩, ?_⟩
  · subst hh; exact x1
  · subst hh; exact x2
  · subst hh; exact x3
  · subst hh; exact x4
  · subst hh; rw [ji_si, if_pos ⟨rfl, rfl⟩]; rfl
  · subst hh; exact x6
  · subst hh; exact x7
  · subst hh; exact x8
  · subst hh; exact x9
  · subst hh; exact x10
  · subst hh; exact x11
  · subst hh; exact x12
  · subst hh; exact x14
  · subst hh; exact r1
  · subst hh; exact r2
  · subst hh; exact r3
  · subst hh; exact r4
  · subst hh; exact r5
  · obtain ⟨f1, f2, f3, f4, f5, f6, f7, f8, f9, f10, f11, f12, f13, f14, f15, f16, f17, f18, f19⟩ := r6
    refine ⟨f1, f2, f3, f4, f5, f6, f7, f8, f9, fun j => ?_, f11, f12, f13, f14, f15, f16, f17, f18, f19⟩
    rw [e12]; split; omega; exact f10 j
  · have evl : vl (srg S i a b) j = vl S j := by
      show (if 0 = 1 + rg S i ∧ j = i then a else if 0 = 11 + rg S i ∧ j = i then b else S.2 0 j) = _
      rw [if_neg (by omega), if_neg (by omega)]; rfl
    obtain ⟨x1, x2, x3, x4, x5, x6, x7, x8, x9, x10, x11, x12, x13, x14, x15, x16, x17, x18, x19, x20, x21⟩ := (r7 j p q).1
    subst hh
    exact ⟨x1, x2, x3, x4, x5, x6, x7, x8, x9, x10, x11, x12, x13, x14, x15, by rw [evl]; exact x16, x17, x18, x19, x20, x21⟩
  · subst hh; exact (r7 j p q).2.1
  · have hk8 := r6.2.2.2.2.2.2.2.2.2.1 j
    unfold RR
    rw [e12, rr j p q]
    by_cases w : j = i
    · simp only [if_pos w]
      refine ⟨fun y => by omega, fun _ => ⟨r, rfl, by subst hh; exact z1, by subst hh; exact z2, by subst hh; exact z3, by subst hh; exact z4, by subst hh; exact z5, by subst hh; exact z6, by subst hh; exact z7, by rw [k130, if_pos rfl], fun k hk => ?_⟩⟩
      rw [erf k j (by omega), ert k j (by omega), kI, kI]
      subst w
      by_cases v : k = rg S j
      · rw [if_neg (by omega), if_pos ⟨rfl, v⟩, if_pos ⟨v, rfl⟩, if_pos ⟨rfl, v⟩, if_pos ⟨v, rfl⟩]; exact ⟨rfl, rfl⟩
      · rw [if_neg (by omega), if_neg (by omega), if_neg (by omega), if_neg (by omega), if_neg (by omega), if_neg (by omega)]; exact z8 k (by omega)
    · simp only [if_neg w]
      obtain ⟨q1, q2⟩ := (r7 j p q).2.2
      refine ⟨q1, fun y => ?_⟩
      obtain ⟨s, y1, y2, y3, y4, y5, y6, y7, y8, y9, y10⟩ := q2 y
      obtain ⟨t1, t2, t3, t4⟩ := fr j s p q w y1
      refine ⟨s, y1, by subst hh; exact y2, by subst hh; exact y3, by subst hh; exact y4, by subst hh; exact y5, by subst hh; exact y6, by subst hh; exact y7, by subst hh; exact y8, by rw [k130, if_neg (fun z => t3 z.symm)]; exact y9, fun k hk => ?_⟩
      have hk9 : k < 8 := Nat.lt_of_lt_of_le hk hk8
      rw [erf k j hk9, ert k j hk9, kI, kI, if_neg (fun z => t4 z.1), if_neg (fun z => t1 z.1.symm), if_neg (fun z => w z.2), if_neg (fun z => t3 (Nat.add_right_cancel z.1).symm), if_neg (fun z => t2 z.1.symm), if_neg (fun z => w z.2)]
      exact y10 k hk
  · subst hh; exact H
  · subst hh; exact B.1
  · subst hh; exact B.2.1
  · intro j s p q e
    rw [rr j p q] at e
    by_cases w : j = i
    · rw [if_pos w] at e; cases e; exact o1
    · rw [if_neg w] at e; exact B.2.2 j s p q e
  · subst hh; exact J.1
  · intro u v s t a1 a2 c1 c2 hu hv hne
    rw [rr u a1 a2] at hu
    rw [rr v c1 c2] at hv
    by_cases wu : u = i
    · rw [if_pos wu] at hu
      rw [if_neg (by omega)] at hv
      cases hu
      have := fr v t c1 c2 (by omega) hv
      omega
    · rw [if_neg wu] at hu
      by_cases wv : v = i
      · rw [if_pos wv] at hv
        cases hv
        have := fr u s a1 a2 wu hu
        omega
      · rw [if_neg wv] at hv
        exact J.2.1 u v s t a1 a2 c1 c2 hu hv hne
  · subst hh; exact J.2.2
  · intro q; cases q
  · intro c p q
    refine ⟨by subst hh; rfl, by subst hh; rfl, fun k hk => ?_, fun k => ?_⟩
    · subst hh
      exact ⟨by rw [ji_si, if_neg (by omega), ji_si, if_neg (by omega)]; rfl, rfl, by rw [jr_si, jr_si, jr_sI, jr_sI, jr_sr, if_neg (by omega)]⟩
    · rw [kI, if_neg (by omega), if_neg (by omega)]
      subst hh
      exact ⟨rfl, rfl, rfl⟩
end Cla1
