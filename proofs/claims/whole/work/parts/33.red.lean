/-! contracts: redefines, depending -/
def sred (S : sg) (u v : Int32) : Int32 × sg := if fnd S u = 0 ∨ fnd S v = 0 then (-2, S) else if okR S (fnd S u) (fnd S v) = false then (0, S) else (1, sset (sset S 15 (fnd S u) (fnd S v)) 22 (fnd S v) 1)
def snw (S : sg) (i v : Nat) : sg := (fun a j => if a = 9 ∧ j = i then v else S.1 a j, S.2)
def sdep (S : sg) (u v : Int32) : Int32 × sg := if fnd S u = 0 then (-2, S) else if ¬ tb S (fnd S u) = 2 then (-4, S) else if v.toInt < le S (fnd S u) ∨ (mo S (fnd S u) : Int) < v.toInt then (0, S) else (1, snw S (fnd S u) v.toInt.toNat)
section Red1
variable {g : jg} {h : jh} {S : sg} {x b1 b2 tr pl so rw al : Nat} {ad : Nat → Nat} {Q : jq}
theorem c_redefines (C : RCx h S x b1 b2 tr pl so rw al ad) {u v : Int32} (hQ : ∀ h', RC h' (sred S u v).2 x b1 b2 (jn h al) → FB b1 b2 h h' → jz h' = jz h → Q (.inl (some (.inl (sred S u v).1))) h') : jM g mX9_redefines [.inr (.inr (some x)), .inl u, .inl v] h 0 0 Q := by
  obtain ⟨x1, x2, x3, x4, x5, x6, x7, x8, x9, x10, x11, x12, x13, x14, R, H, B, J, L⟩ := id C
  have same : ∀ r : Int32, sred S u v = (r, S) → Q (.inl (some (.inl r))) h := fun r e => by
    have := hQ h (by rw [e]; exact ⟨tr, pl, so, rw, al, ad, C, rfl⟩) FB.rf rfl
    rw [e] at this
    exact this
  have hu := fnd_le S u R.N
  have hv := fnd_le S v R.N
  refine eX9_redefines ⟨x1, ?_⟩
  rw [x2, jd_s]
  refine ⟨jsn, R.tg, c_find R ?_⟩
  rw [jkr_i]
  rw [x2, jd_s]
  refine ⟨x1, jsn, R.tg, c_find R ?_⟩
  rw [jkr_i]
  refine ⟨fun c => same _ (if_pos (Or.inl (rO_none.mp c))), fun c => ⟨fun c2 => ?_, fun c2 => same _ (if_pos (Or.inr (rO_none.mp c2)))⟩⟩
  have fu : ¬ fnd S u = 0 := fun q => c (rO_none.mpr q)
  have fv : ¬ fnd S v = 0 := fun q => c2 (rO_none.mpr q)
  rw [x2, jd_s]
  refine ⟨x1, jsn, R.tg, c_mayRedefine R (by omega) hu (by omega) hv ?_⟩
  rw [jki_i]
  have hn : ¬ (fnd S u = 0 ∨ fnd S v = 0) := by omega
  refine ⟨fun c3 => ?_, fun c3 => same _ (by unfold sred; rw [if_neg hn, if_pos (jb_0.mp c3)])⟩
  have hR : okR S (fnd S u) (fnd S v) = true := by rw [jb_0] at c3; simpa using c3
  have e : sred S u v = (1, sset (sset S 15 (fnd S u) (fnd S v)) 22 (fnd S v) 1) := by unfold sred; rw [if_neg hn, if_neg (by rw [hR]; decide)]
  rw [e] at hQ
  rw [rO_jd fu, rO_jd fv]
  generalize fnd S u = i at *
  generalize fnd S v = o at *
  have hoi : o < i := (of_decide_eq_true hR).1
  refine ⟨(R.i (by omega) hu).2.1, ?_⟩
  intro h1 e1
  refine ⟨by rw [e1]; exact (R.i (by omega) hv).2.1, ?_⟩
  intro h2 e2
  refine ⟨by rw [e2, e1]; exact x1, ?_⟩
  intro h3 e3
  refine hQ h3 ⟨tr, pl, so, rw, al, ad, ?_, by rw [e3, e2, e1]; rfl⟩ ?_ (by rw [e3, e2, e1]; rfl)
  · have hot : ∀ j, ot (sset (sset S 15 i o) 22 o 1) j = if j = i then o else ot S j := fun j => by unfold ot; rw [sset_o (by decide) (by decide), sset_at (by decide)]; simp only [true_and]
    have hrd : ∀ j, rd (sset (sset S 15 i o) 22 o 1) j = if j = o then 1 else rd S j := fun j => by unfold rd; rw [sset_at (by decide)]; simp only [true_and]; rw [sset_o (by decide) (by decide)]
    subst e3 e2 e1
    refine ⟨x1, x2, x3, x4, ?_, x6, x7, x8, x9, x10, x11, x12, x13, x14, ?_, H, B, J, ?_⟩
    · rw [ji_si, if_pos ⟨rfl, rfl⟩]; rfl
    · obtain ⟨r1, r2, r3, r4, r5, r6, r7⟩ := id R
      refine ⟨r1, r2, r3, r4, r5, ?_, fun j a b => ⟨?_, (r7 j a b).2⟩⟩
      · obtain ⟨f1, f2, f3, f4, f5, f6, f7, f8, f9, f10, f11, f12, f13, f14, f15, f16, f17, f18, f19⟩ := r6
        refine ⟨f1, f2, f3, f4, f5, f6, f7, f8, f9, f10, f11, f12, fun j => ?_, f14, f15, f16, f17, fun j => ?_, f19⟩
        · rw [hot]
          split
          · omega
          · exact f13 j
        · rw [hrd]
          split
          · omega
          · exact f18 j
      · obtain ⟨x1, x2, x3, x4, x5, x6, x7, x8, x9, x10, x11, x12, x13, x14, x15, x16, x17, x18, x19, x20, x21⟩ := (r7 j a b).1
        refine ⟨x1, x2, x3, x4, x5, x6, x7, x8, x9, x10, x11, x12, x13, x14, x15, x16, x17, x18, ?_, ?_, x21⟩
        · rw [hot, jr_si, jr_si, jr_sr]
          by_cases q : j = i
          · rw [if_pos ⟨rfl, by rw [q]⟩, if_pos q]
          · rw [if_neg (fun z => q (R.inj a b (by omega) hu z.2)), if_neg q]; exact x19
        · rw [hrd, ji_si, if_neg (by omega), ji_si, ji_sr]
          by_cases q : j = o
          · rw [if_pos ⟨rfl, by rw [q]⟩, if_pos q]; rfl
          · rw [if_neg (fun z => q (R.inj a b (by omega) hv z.2)), if_neg q]; exact x20
    · intro q; cases q
  · subst e3 e2 e1
    exact fun a p q => ⟨rfl, rfl, fun k hk => ⟨by rw [ji_si, if_neg (by omega), ji_si, if_neg (by omega), ji_sr], rfl, by rw [jr_si, jr_si, jr_sr, if_neg (by omega)]⟩, fun _ => ⟨rfl, rfl, rfl⟩⟩
theorem RT.le (R : RTree h S tr rw ad) {i t : Nat} (hi1 : 1 ≤ i) (hi2 : i ≤ sN S) (ht : jr h 10 (ad i) = some t) : ¬ tb S i = 0 ∧ jt h t = 6 ∧ ji h 320 t = nI (le S i) ∧ ji h 321 t = nI (mo S i) ∧ ji h 322 t = (if tb S i = 2 then 1 else 0) ∧ ji h 323 t = nI (nw S i) := by
  have hT := R.t hi1 hi2
  have h0 : ¬ tb S i = 0 := fun q => by rw [hT.1 q] at ht; cases ht
  obtain ⟨t', y1, y⟩ := hT.2 h0
  rw [y1] at ht
  cases ht
  exact ⟨h0, y⟩
theorem c_depending (C : RCx h S x b1 b2 tr pl so rw al ad) {u v : Int32} (hQ : ∀ h', RC h' (sdep S u v).2 x b1 b2 (jn h al) → FB b1 b2 h h' → jz h' = jz h → Q (.inl (some (.inl (sdep S u v).1))) h') : jM g mX9_depending [.inr (.inr (some x)), .inl u, .inl v] h 0 0 Q := by
  obtain ⟨x1, x2, x3, x4, x5, x6, x7, x8, x9, x10, x11, x12, x13, x14, R, H, B, J, L⟩ := id C
  have same : ∀ r : Int32, sdep S u v = (r, S) → Q (.inl (some (.inl r))) h := fun r e => by
    have := hQ h (by rw [e]; exact ⟨tr, pl, so, rw, al, ad, C, rfl⟩) FB.rf rfl
    rw [e] at this
    exact this
  have hu := fnd_le S u R.N
  refine eX9_depending ⟨x1, ?_⟩
  rw [x2, jd_s]
  refine ⟨jsn, R.tg, c_find R ?_⟩
  rw [jkr_i]
  refine ⟨fun c => ?_, fun c => same _ (if_pos (rO_none.mp c))⟩
  have hf : ¬ fnd S u = 0 := fun q => c (rO_none.mpr q)
  unfold sdep at hQ same
  rw [if_neg hf] at hQ
  simp only [if_neg hf] at same
  generalize hi : fnd S u = i at *
  have hr := R.i (i := i) (by omega) hu
  rw [rO_jd hf]
  refine ⟨hr.2.1, fun c1 => same _ ?_, fun c1 => ?_⟩
  · rw [if_pos]
    have := (RT.nn R (by omega) hu).mp c1
    omega
  · obtain ⟨t, ht⟩ : ∃ t, jr h 10 (ad i) = some t := by
      cases hq : jr h 10 (ad i) with
      | none => exact absurd hq c1
      | some t => exact ⟨t, rfl⟩
    obtain ⟨y0, y1, y2, y3, y4, y5⟩ := RT.le R (by omega) hu ht
    have wmo := R.wf.2.2.2.2.2.2.1 i
    have wle := R.wf.2.2.2.2.2.2.2.2.1 i
    rw [ht, jd_s, y2, y3, y4]
    simp only [Int32.lt_iff_toInt_lt, Int32.le_iff_toInt_le, nI_toInt (show le S i < 2 ^ 31 by omega), nI_toInt (show mo S i < 2 ^ 31 by omega)]
    refine ⟨y1, fun c2 => ?_, fun c2 => same _ ?_⟩
    · have t2 : tb S i = 2 := by
        by_cases q : tb S i = 2
        · exact q
        · rw [if_neg q] at c2; exact absurd rfl c2
      rw [if_neg (by omega)] at hQ
      simp only [if_neg (show ¬ ¬ tb S i = 2 by omega)] at same
      refine ⟨fun c3 => same _ (if_pos (Or.inl c3)), fun c3 => ⟨fun c4 => ?_, fun c4 => same _ (if_pos (Or.inr (by omega)))⟩⟩
      rw [if_neg (by omega)] at hQ
      intro h1 e1
      have ev : v = nI v.toInt.toNat := by rw [← Int32.toInt_inj, nI_toInt (by omega)]; omega
      refine hQ h1 ⟨tr, pl, so, rw, al, ad, ?_, by rw [e1]; rfl⟩ (by rw [e1]; exact fun a p q => ⟨rfl, rfl, fun k hk => ⟨by rw [ji_si, if_neg (by omega)], rfl, rfl⟩, fun _ => ⟨rfl, rfl, rfl⟩⟩) (by rw [e1]; rfl)
      subst e1
      have hnw : ∀ j, nw (snw S i v.toInt.toNat) j = if j = i then v.toInt.toNat else nw S j := fun j => by unfold nw snw; simp only [true_and]
      refine ⟨x1, x2, x3, x4, x5, x6, x7, x8, x9, x10, x11, x12, x13, x14, ?_, H, B, J, L⟩
      obtain ⟨r1, r2, r3, r4, r5, r6, r7⟩ := id R
      refine ⟨r1, r2, r3, r4, r5, ?_, fun j a b => ⟨(r7 j a b).1, ⟨(r7 j a b).2.1.1, fun q => ?_⟩, (r7 j a b).2.2⟩⟩
      · obtain ⟨f1, f2, f3, f4, f5, f6, f7, f8, f9, f10, f11, f12, f13, f14, f15, f16, f17, f18, f19⟩ := r6
        refine ⟨f1, f2, f3, f4, f5, f6, f7, fun j => ?_, f9, f10, f11, f12, f13, f14, f15, f16, f17, f18, f19⟩
        rw [hnw]
        split
        · rename_i q; rw [q]; show _ ≤ mo S i; omega
        · exact f8 j
      · obtain ⟨t', z1, z2, z3, z4, z5, z6⟩ := (r7 j a b).2.1.2 q
        refine ⟨t', z1, z2, z3, z4, z5, ?_⟩
        rw [hnw, ji_si]
        by_cases w : j = i
        · rw [w, ht] at z1
          rw [if_pos ⟨rfl, (Option.some.inj z1).symm⟩, if_pos w]
          exact ev
        · rw [if_neg (fun z => w (J.1 j i t a b (by omega) hu (by rw [z1, z.2]) ht)), if_neg w]; exact z6
    · rw [if_pos]
      intro q
      rw [if_pos q] at c2
      cases c2
end Red1
