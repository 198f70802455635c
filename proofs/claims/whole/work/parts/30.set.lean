/-! changes of items' fields: what is kept -/
/-- what an int field, a reference of item i holds -/
def xI (S : sg) (i k : Nat) : Int32 := if k = 0 then nI i else if k = 1 then nI (lv S i) else if k = 2 then nI (us S i) else if k = 3 then nI (dg S i) else if k = 4 then nI (byts (us S i) (dg S i)) else if k = 9 then nI (lb S i) else if k = 11 then nI (sy S i) else if k = 12 then nI (va S i) else if k = 13 then vl S i else if k = 18 then nI (rd S i) else nI (na S i) - 1
def xR (S : sg) (ad : Nat → Nat) (i k : Nat) : Option Nat := if k = 5 then rO ad (cpa S i) else if k = 6 then rO ad (nam S i) else if k = 7 then some (ad i + 1) else if k = 8 then rO ad (rc S i) else if k = 15 then rO ad (rn S i) else if k = 16 then rO ad (rm S i) else rO ad (ot S i)
def xk (k : Nat) : Prop := k ≤ 4 ∨ k = 9 ∨ k = 11 ∨ k = 12 ∨ k = 13 ∨ k = 18 ∨ k = 19
def xr (k : Nat) : Prop := (5 ≤ k ∧ k ≤ 8) ∨ (15 ≤ k ∧ k ≤ 17)
theorem RI_iff {h : jh} {S : sg} {rw : Nat} {ad : Nat → Nat} {i : Nat} : RI h S rw ad i ↔ (jR h rw i = some (ad i) ∧ jt h (ad i) = 1 ∧ jt h (ad i + 1) = 4 ∧ (∀ k, xk k → ji h k (ad i) = xI S i k) ∧ ∀ k, xr k → jr h k (ad i) = xR S ad i k) := by
  constructor
  · rintro ⟨x1, x2, x3, x4, x5, x6, x7, x8, x9, x10, x11, x12, x13, x14, x15, x16, x17, x18, x19, x20, x21⟩
    refine ⟨x1, x2, x11, fun k hk => ?_, fun k hk => ?_⟩
    · have hk' : k = 0 ∨ k = 1 ∨ k = 2 ∨ k = 3 ∨ k = 4 ∨ k = 9 ∨ k = 11 ∨ k = 12 ∨ k = 13 ∨ k = 18 ∨ k = 19 := by unfold xk at hk; omega
      rcases hk' with rfl | rfl | rfl | rfl | rfl | rfl | rfl | rfl | rfl | rfl | rfl <;> first | exact x3 | exact x4 | exact x5 | exact x6 | exact x7 | exact x13 | exact x14 | exact x15 | exact x16 | exact x20 | exact x21
    · have hk' : k = 5 ∨ k = 6 ∨ k = 7 ∨ k = 8 ∨ k = 15 ∨ k = 16 ∨ k = 17 := by unfold xr at hk; omega
      rcases hk' with rfl | rfl | rfl | rfl | rfl | rfl | rfl <;> first | exact x8 | exact x9 | exact x10 | exact x12 | exact x17 | exact x18 | exact x19
  · rintro ⟨x1, x2, x3, f, r⟩
    exact ⟨x1, x2, f 0 (by unfold xk; omega), f 1 (by unfold xk; omega), f 2 (by unfold xk; omega), f 3 (by unfold xk; omega), f 4 (by unfold xk; omega), r 5 (by unfold xr; omega), r 6 (by unfold xr; omega), r 7 (by unfold xr; omega), x3, r 8 (by unfold xr; omega), f 9 (by unfold xk; omega), f 11 (by unfold xk; omega), f 12 (by unfold xk; omega), f 13 (by unfold xk; omega), r 15 (by unfold xr; omega), r 16 (by unfold xr; omega), r 17 (by unfold xr; omega), f 18 (by unfold xk; omega), f 19 (by unfold xk; omega)⟩
/-- attribute a of item i becomes v; it isn't laid out any more -/
def sset (S : sg) (a i v : Nat) : sg := (fun a' i' => if a' = a ∧ i' = i then v else if a' = 17 then 0 else S.1 a' i', S.2)
/-- .. and value v -/
def svl (S : sg) (i : Nat) (v : Int32) : sg := (S.1, fun k j => if k = 0 ∧ j = i then v else S.2 k j)
theorem sset_at {S : sg} {a i v a' i' : Nat} (h7 : a' ≠ 17) : (sset S a i v).1 a' i' = if a' = a ∧ i' = i then v else S.1 a' i' := by
  unfold sset
  simp only [h7, if_false]
theorem sset_o {S : sg} {a i v a' i' : Nat} (h7 : a' ≠ 17) (h : a' ≠ a) : (sset S a i v).1 a' i' = S.1 a' i' := by
  rw [sset_at h7, if_neg (fun q => h q.1)]
section Set1
variable {h h' : jh} {S S' : sg} {x b1 b2 tr pl so rw al : Nat} {ad : Nat → Nat}
theorem RCx.set (C : RCx h S x b1 b2 tr pl so rw al ad) (hN : sN S' = sN S) (hF : WF S') (hl : laid S' = 0) (h1 : looks S' = looks S) (h2 : looked S' = looked S)
    (ha : ∀ a i, (6 ≤ a ∧ a ≤ 9) ∨ a = 12 ∨ a = 1 → S'.1 a i = S.1 a i) (hv : ∀ k i, 1 ≤ k → S'.2 k i = S.2 k i)
    (kz : jz h' = jz h) (kt : jt h' = jt h) (kn : jn h' = jn h) (kI : jI h' = jI h) (kL : jL h' = jL h) (kR : jR h' = jR h)
    (sm : ∀ c, jt h c ≠ 1 → c ≠ x → Sm h h' c) (e1 : ji h' 451 x = 0) (e2 : ∀ k, k ≠ 451 → ji h' k x = ji h k x) (e3 : ∀ k, jr h' k x = jr h k x)
    (it : ∀ i, 1 ≤ i → i ≤ sN S → (∀ k, xk k → ji h' k (ad i) = xI S' i k) ∧ (∀ k, xr k → jr h' k (ad i) = xR S' ad i k) ∧ jr h' 10 (ad i) = jr h 10 (ad i) ∧ jr h' 14 (ad i) = jr h 14 (ad i)) : RCx h' S' x b1 b2 tr pl so rw al ad ∧ FB b1 b2 h h' := by
  obtain ⟨x1, x2, x3, x4, x5, x6, x7, x8, x9, x10, x11, x12, x13, x14, R, H, B, J, L⟩ := id C
  obtain ⟨r1, r2, r3, r4, r5, r6, r7⟩ := id R
  have tne : ∀ {c}, jt h c ≠ 8 → c ≠ x := fun hc q => hc (by rw [q]; exact x1)
  have st := sm tr (by rw [r1]; decide) (tne (by rw [r1]; decide))
  have spl := sm pl (by rw [x8]; decide) (tne (by rw [x8]; decide))
  have sso := sm so (by rw [x10]; decide) (tne (by rw [x10]; decide))
  have fb : FB b1 b2 h h' := Sm.fb fun a a1 a2 => by
    have := B.2.1 a a1 a2
    exact sm a (by omega) (tne (by omega))
  refine ⟨⟨by rw [kt]; exact x1, (e3 448).trans x2, (e3 449).trans x3, (e3 450).trans x4, by rw [e1, hl]; rfl, by rw [e2 452 (by decide), h1]; exact x6, by rw [e2 453 (by decide), h2]; exact x7, by rw [kt]; exact x8, ((spl.2.2.1 64).2.2).trans x9, by rw [kt]; exact x10, ((sso.2.2.1 256).2.2).trans x11, by rw [kt]; exact x12, x13, by rw [kn]; exact x14, ⟨by rw [kt]; exact r1, ((st.2.2.1 384).2.2).trans r2, by rw [kt]; exact r3, by rw [kn]; exact r4, by rw [(st.2.2.1 385).1, hN]; exact r5, hF, fun i a b => ?_⟩, ?_, ⟨?_, ?_, ?_⟩, ⟨?_, ?_, ?_⟩, ?_⟩, fb⟩
  · rw [hN] at b
    obtain ⟨hI, hT, hR⟩ := r7 i a b
    obtain ⟨f1, f2, f3, f4⟩ := it i a b
    refine ⟨RI_iff.mpr ⟨by rw [kR]; exact hI.1, by rw [kt]; exact hI.2.1, by rw [kt]; exact hI.2.2.2.2.2.2.2.2.2.2.1, f1, f2⟩, ?_, ?_⟩
    · unfold RT
      rw [show tb S' i = tb S i from ha 6 i (by omega), show le S' i = le S i from ha 7 i (by omega), show mo S' i = mo S i from ha 8 i (by omega), show nw S' i = nw S i from ha 9 i (by omega), f3]
      refine ⟨hT.1, fun q => ?_⟩
      obtain ⟨t, y1, y2, y3, y4, y5, y6⟩ := hT.2 q
      have s := sm t (by rw [y2]; decide) (tne (by rw [y2]; decide))
      exact ⟨t, y1, s.1.trans y2, ((s.2.2.1 320).1).trans y3, ((s.2.2.1 321).1).trans y4, ((s.2.2.1 322).1).trans y5, ((s.2.2.1 323).1).trans y6⟩
    · unfold RR
      rw [show rg S' i = rg S i from ha 12 i (by omega), f4]
      refine ⟨hR.1, fun q => ?_⟩
      obtain ⟨r, y1, y2, y3, y4, y5, y6, y7, y8, y9, y10⟩ := hR.2 q
      have s0 := sm r (by rw [y2]; decide) (tne (by rw [y2]; decide))
      refine ⟨r, y1, s0.1.trans y2, ((s0.2.2.1 128).2.2).trans y3, ((s0.2.2.1 129).2.2).trans y4, by rw [kt]; exact y5, by rw [kt]; exact y6, by rw [kn]; exact y7, by rw [kn]; exact y8, ((s0.2.2.1 130).1).trans y9, fun k hk => ?_⟩
      rw [kI, show rf S' k i = rf S k i from hv (1 + k) i (by omega), show rt S' k i = rt S k i from hv (11 + k) i (by omega)]
      exact y10 k hk
  · intro a hh
    rw [kt] at hh
    rw [kz]
    exact H a hh
  · rw [kz]; exact B.1
  · rw [kt]; exact B.2.1
  · intro i r a b hr
    rw [hN] at b
    rw [(it i a b).2.2.2] at hr
    exact B.2.2 i r a b hr
  · intro i j t a1 a2 c1 c2 hi hj
    rw [hN] at a2 c2
    rw [(it i a1 a2).2.2.1] at hi
    rw [(it j c1 c2).2.2.1] at hj
    exact J.1 i j t a1 a2 c1 c2 hi hj
  · intro i j r q a1 a2 c1 c2 hi hj hne
    rw [hN] at a2 c2
    rw [(it i a1 a2).2.2.2] at hi
    rw [(it j c1 c2).2.2.2] at hj
    exact J.2.1 i j r q a1 a2 c1 c2 hi hj hne
  · intro i a b hlv
    rw [hN] at b
    have tg := (r7 i a b).1.2.2.2.2.2.2.2.2.2.2.1
    rw [((sm (ad i + 1) (by rw [tg]; decide) (tne (by rw [tg]; decide))).2.2.1 195).1]
    rw [show lv S' i = lv S i from ha 1 i (by omega)] at hlv
    exact J.2.2 i a b hlv
  · intro q
    rw [hl] at q
    cases q
end Set1
/-- external -/
def sext (S : sg) (x y : Int32) : Int32 × sg := if fnd S x = 0 then (-2, S) else if y.toInt < 0 ∨ 99 < y.toInt then (-4, S) else if ¬ lv S (fnd S x) = 1 ∨ ¬ na S (fnd S x) = 0 ∨ ¬ ot S (fnd S x) = 0 ∨ ¬ rd S (fnd S x) = 0 then (0, S) else (1, sset S 16 (fnd S x) (y.toInt.toNat + 1))
section Ext1
variable {g : jg} {h : jh} {S : sg} {x b1 b2 tr pl so rw al : Nat} {ad : Nat → Nat} {Q : jq}
theorem c_external (C : RCx h S x b1 b2 tr pl so rw al ad) {u v : Int32} (hQ : ∀ h', RC h' (sext S u v).2 x b1 b2 (jn h al) → FB b1 b2 h h' → jz h' = jz h → Q (.inl (some (.inl (sext S u v).1))) h') : jM g mX9_external [.inr (.inr (some x)), .inl u, .inl v] h 0 0 Q := by
  obtain ⟨x1, x2, x3, x4, x5, x6, x7, x8, x9, x10, x11, x12, x13, x14, R, H, B, J, L⟩ := id C
  have same : ∀ r : Int32, sext S u v = (r, S) → Q (.inl (some (.inl r))) h := fun r e => by
    have := hQ h (by rw [e]; exact ⟨tr, pl, so, rw, al, ad, C, rfl⟩) FB.rf rfl
    rw [e] at this
    exact this
  have hle := fnd_le S u R.N
  refine eX9_external ⟨x1, ?_⟩
  rw [x2, jd_s]
  refine ⟨jsn, R.tg, c_find R ?_⟩
  rw [jkr_i]
  refine ⟨fun c => ?_, fun c => same _ (if_pos (rO_none.mp c))⟩
  have hf : ¬ fnd S u = 0 := fun q => c (rO_none.mpr q)
  unfold sext at hQ same
  rw [if_neg hf] at hQ
  simp only [if_neg hf] at same
  generalize hi : fnd S u = i at *
  have hr := R.i (i := i) (by omega) hle
  rw [rO_jd hf]
  have ll : (ji h 1 (ad i)).toInt = lv S i := R.lvl (by omega) hle
  have wna := R.wf.2.2.2.2.2.2.2.2.2.2.1 i
  have wrd := R.wf.2.2.2.2.2.2.2.2.2.2.2.2.2.2.2.2.2.1 i
  have ln : (ji h 19 (ad i)).toInt = (na S i : Int) - 1 := by
    rw [hr.2.2.2.2.2.2.2.2.2.2.2.2.2.2.2.2.2.2.2.2, show (1 : Int32) = nI 1 from rfl, pk_sub_toInt (by omega) (by decide)]
    rfl
  have lr : (ji h 18 (ad i)).toInt = rd S i := by rw [hr.2.2.2.2.2.2.2.2.2.2.2.2.2.2.2.2.2.2.2.1, nI_toInt (by omega)]
  have lo := hr.2.2.2.2.2.2.2.2.2.2.2.2.2.2.2.2.2.2.1
  rw [lo, rO_none]
  simp only [Int32.lt_iff_toInt_lt, Int32.le_iff_toInt_le, ← Int32.toInt_inj, Int32.reduceToInt, show (-1 : Int32).toInt = -1 from rfl, ll, ln, lr]
  refine ⟨fun c1 => same _ (if_pos (by omega)), fun c1 => ⟨fun c2 => ⟨hr.2.1, fun c3 => same _ ?_, fun c3 => ⟨fun c4 => same _ ?_, fun c4 => ⟨fun c5 => same _ ?_, fun c5 => ⟨fun c6 => ?_, fun c6 => same _ ?_⟩⟩⟩⟩, fun c2 => same _ (if_pos (by omega))⟩⟩
  · rw [if_neg (by omega), if_pos (by omega)]
  · rw [if_neg (by omega), if_pos (by omega)]
  · rw [if_neg (by omega), if_pos (by omega)]
  · rw [if_neg (by omega), if_neg (by omega)] at hQ
    intro h1 e1
    have hx : ad i ≠ x := fun q => by have := hr.2.1; rw [q, x1] at this; omega
    refine ⟨by rw [e1]; exact x1, ?_⟩
    intro h2 e2
    have ee : v = nI (v.toInt.toNat + 1) - 1 := by
      rw [← Int32.toInt_inj, show (1 : Int32) = nI 1 from rfl, pk_sub_toInt (by omega) (by decide)]
      omega
    have key := C.set (h' := h2) (S' := sset S 16 i (v.toInt.toNat + 1)) (sset_o (by decide) (by decide)) ?_ rfl (sset_o (by decide) (by decide)) (sset_o (by decide) (by decide)) (fun a j q => sset_o (by omega) (by omega)) (fun _ _ _ => rfl) (by rw [e2, e1]; rfl) (by rw [e2, e1]; rfl) (by rw [e2, e1]; rfl) (by rw [e2, e1]; rfl) (by rw [e2, e1]; rfl) (by rw [e2, e1]; rfl)
      (fun c c1 c2 => (Sm.si e1 (fun q => c1 (by rw [q]; exact hr.2.1))).trans (Sm.si e2 c2)) (by rw [e2, ji_si, if_pos ⟨rfl, rfl⟩]) (fun k hk => by rw [e2, ji_si, if_neg (fun q => hk q.1), e1, ji_si, if_neg (fun q => hx q.2.symm)]) (fun k => by rw [e2, e1]; rfl) ?_
    · exact hQ h2 ⟨tr, pl, so, rw, al, ad, key.1, by rw [e2, e1]; rfl⟩ key.2 (by rw [e2, e1]; rfl)
    · obtain ⟨f1, f2, f3, f4, f5, f6, f7, f8, f9, f10, f11, f12, f13, f14, f15, f16, f17, f18, f19⟩ := R.wf
      refine ⟨f1, f2, f3, f4, f5, f6, f7, f8, f9, f10, fun j => ?_, f12, f13, f14, f15, f16, f17, f18, f19⟩
      unfold na
      rw [sset_at (by decide)]
      split
      · omega
      · exact f11 j
    · intro j a b
      have hj := RI_iff.mp (R.i a b)
      have hxj : ad j ≠ x := fun q => by have := hj.2.1; rw [q, x1] at this; omega
      have kr : ∀ k, jr h2 k (ad j) = jr h k (ad j) := fun k => by rw [e2, e1]; rfl
      refine ⟨fun k hk => ?_, fun k hk => by rw [kr k]; exact hj.2.2.2.2 k hk, kr 10, kr 14⟩
      rw [e2, ji_si, if_neg (fun q => hxj q.2), e1, ji_si]
      by_cases q : k = 19 ∧ ad j = ad i
      · rw [if_pos q]
        have : j = i := R.inj a b (by omega) hle q.2
        subst this
        rw [q.1]
        show v = nI (na _ j) - 1
        rw [show na (sset S 16 j (v.toInt.toNat + 1)) j = v.toInt.toNat + 1 from by unfold na; rw [sset_at (by decide), if_pos ⟨rfl, rfl⟩]]
        exact ee
      · rw [if_neg q, hj.2.2.2.1 k hk]
        unfold xI
        by_cases k9 : k = 19
        · have hne : j ≠ i := fun z => q ⟨k9, by rw [z]⟩
          subst k9
          show nI (na S j) - 1 = nI (na _ j) - 1
          rw [show na (sset S 16 i (v.toInt.toNat + 1)) j = na S j from by unfold na; rw [sset_at (by decide), if_neg (fun z => hne z.2)]]
        · have : k = 0 ∨ k = 1 ∨ k = 2 ∨ k = 3 ∨ k = 4 ∨ k = 9 ∨ k = 11 ∨ k = 12 ∨ k = 13 ∨ k = 18 := by unfold xk at hk; omega
          rcases this with rfl | rfl | rfl | rfl | rfl | rfl | rfl | rfl | rfl | rfl <;> rfl
  · rw [if_neg (by omega), if_pos (by omega)]
end Ext1
