/-! contracts: clause, as a whole -/
/-- what a clause of item i does; none: it is refused -/
def stell (S : sg) (i : Nat) (k a b : Int32) : Option sg :=
  if k = 0 then (if okT S i false = true then some (stab S i 1 a.toInt.toNat a.toInt.toNat) else none)
  else if k = 1 then (if okT S i true = true then some (stab S i 2 a.toInt.toNat b.toInt.toNat) else none)
  else if k = 2 then (if 8 ≤ us S i ∧ us S i ≤ 11 ∧ sy S i = 0 then some (sset S 10 i 1) else none)
  else if k = 3 then (if okN (us S i) = true ∧ va S i = 0 ∧ aside S i = false ∧ room (dg S i) a.toInt = true then some (svl (sset S 11 i 1) i a) else none)
  else if k = 4 then (if lv S i = 88 ∧ rg S i < 8 then some (srg S i a b) else none)
  else (if okPt S i (fnd S a) (fnd S b) = true then some (sset (sset S 13 i (fnd S a)) 14 i (fnd S b)) else none)
def scla (S : sg) (u k a b : Int32) : Int32 × sg := if fnd S u = 0 ∨ (k = 5 ∧ (fnd S a = 0 ∨ fnd S b = 0)) then (-2, S) else if okC k.toInt a.toInt b.toInt = false then (-4, S) else
  match stell S (fnd S u) k a b with
  | none => (0, S)
  | some S' => (1, S')
theorem jsr_id {h : jh} {k a : Nat} {o : Option Nat} (e : jr h k a = o) : jsr h k a o = h := by
  have : jup (jr h) k a o = jr h := by
    funext k' a'
    unfold jup
    by_cases q : k' = k ∧ a' = a
    · rw [if_pos q, q.1, q.2, e]
    · rw [if_neg q]
  unfold jsr
  rw [this]
  rfl
section Cla2
variable {g : jg} {h : jh} {S : sg} {x b1 b2 tr pl so rw al : Nat} {ad : Nat → Nat} {Q : jq}
/-- what is asked behind tellClause -/
def Tq (h : jh) (S : sg) (x b1 b2 tr pl so rw al : Nat) (ad : Nat → Nat) (h' : jh) : Prop := RCx (jsi h' 451 x 0) S x b1 b2 tr pl so rw al ad ∧ FB b1 b2 h (jsi h' 451 x 0) ∧ jz h' ≤ jz h + 3 ∧ jn h' al = jn h al ∧ jt h' x = 8
theorem c_newTable (C : RCx h S x b1 b2 tr pl so rw al ad) {i : Nat} (hi1 : 1 ≤ i) (hi2 : i ≤ sN S) {u v : Int32} {d : Bool} (hu : 0 ≤ u.toInt ∧ u.toInt ≤ v.toInt) (hv : v.toInt ≤ 999)
    (hQ0 : okT S i d = false → ∀ h', RCx h' S x b1 b2 tr pl so rw al ad → FB b1 b2 h h' → jz h' ≤ jz h + 3 → jn h' al = jn h al → Q (.inl (some (.inl 0))) h')
    (hQ1 : okT S i d = true → ∀ h', Tq h (stab S i (if d then 2 else 1) u.toInt.toNat v.toInt.toNat) x b1 b2 tr pl so rw al ad h' → Q (.inl (some (.inl 1))) h') :
    ∀ h4 : jh, h4 = jmk h 6 0 → jM g mX7_init [.inr (.inr (some (jz h))), .inl u, .inl v, .inl (jb d)] h4 0 0 (jkv (fun (h7 : jh) => (jt h7 x = 8) ∧ jM g mX9_tellTable [.inr (.inr (some x)), .inr (.inr (rO ad i)), .inr (.inr (some (jz h)))] h7 0 0 (jki (fun (r9 : Int32) (h10 : jh) => ((r9) = 0 ∨ (r9) = 1) ∧ Q (.inl (some (.inl (r9)))) h10) (fun e h9 => Q (.inr e) h9))) (fun _ _ => False)) := by
  obtain ⟨x1, x2, x3, x4, x5, x6, x7, x8, x9, x10, x11, x12, x13, x14, R, H, B, J, L⟩ := id C
  have hi0 : ¬ i = 0 := by omega
  intro h1 e1
  refine eX7_init ⟨by rw [e1, jt_mk, if_pos rfl], ?_⟩
  intro h2 e2 h3 e3
  refine ⟨jb_01 _, ?_⟩
  intro h4 e4 h5 e5 h6 e6
  rw [jkv_i]
  have sm : ∀ c, jt h c ≠ 0 → Sm h h6 c := fun c hc => by
    have hz : c ≠ jz h := H.ne hc
    exact (((((Sm.mk e1 hz).trans (Sm.si e2 hz)).trans (Sm.si e3 hz)).trans (Sm.si e4 hz)).trans (Sm.si e5 hz)).trans (Sm.sl e6 hz)
  have H6 : HW h6 := by rw [e6, e5, e4, e3, e2, e1]; exact H.mk (n := 0)
  have hz6 : jz h6 = jz h + 1 := by rw [e6, e5, e4, e3, e2, e1]; rfl
  obtain ⟨C6, fb6⟩ := C.grow (by omega) H6 sm
  obtain ⟨w1, w2, w3, w4, w5, w6, w7, w8, w9, w10, w11, w12, w13, w14, R6, -⟩ := id C6
  have fi : ∀ k, ji h6 k (jz h) = if k = 323 then v else if k = 322 then jb d else if k = 321 then v else if k = 320 then u else 0 := fun k => by
    rw [e6, ji_sl, e5, ji_si, e4, ji_si, e3, ji_si, e2, ji_si, e1, ji_mk, if_pos rfl]
    simp only [and_true]
  have t6 : jt h6 (jz h) = 6 := by rw [e6, e5, e4, e3, e2, e1]; exact if_pos rfl
  have n6 : jn h6 al = jn h al := (sm al (by rw [x12]; decide)).2.1
  refine ⟨w1, eX9_tellTable ⟨w1, jsn, ?_⟩⟩
  rw [jd_s, w2, jd_s]
  refine ⟨t6, jsn, R6.tg, ?_⟩
  rw [show ji h6 322 (jz h) = jb d by rw [fi]; rfl]
  refine c_mayBeTable R6 hi1 hi2 ?_
  rw [jki_i, jb_0]
  refine ⟨fun c => ⟨fun q => hi0 (rO_none.mp q), ?_⟩, fun c => ⟨Or.inl rfl, hQ0 c h6 C6 fb6 (by omega) n6⟩⟩
  have ok : okT S i d = true := by simpa using c
  rw [rO_jd hi0]
  refine ⟨(R6.i hi1 hi2).2.1, ?_⟩
  intro h7 e7
  refine ⟨Or.inr rfl, hQ1 ok h7 ⟨?_, ?_, ?_, ?_, ?_⟩⟩
  · rw [e7]
    refine C6.tab hi1 hi2 (of_decide_eq_true ok).2.1 (by cases d <;> simp) (by omega) (by omega) t6 ?_ ?_ ?_ ?_ ?_
    · rw [fi, ← Int32.toInt_inj, nI_toInt (by omega)]; simp only [Nat.reduceEqDiff, if_false, if_true]; omega
    · rw [fi, ← Int32.toInt_inj, nI_toInt (by omega)]; simp only [Nat.reduceEqDiff, if_false, if_true]; omega
    · rw [fi]; cases d <;> rfl
    · rw [fi, ← Int32.toInt_inj, nI_toInt (by omega)]; simp only [Nat.reduceEqDiff, if_false, if_true]; omega
    · intro j p q e
      have s := sm (ad j) (by rw [(R.i p q).2.1]; decide)
      rw [(s.2.2.1 10).2.2] at e
      have := H (jz h) (by rw [(RT.le R p q e).2.1]; decide)
      omega
  · refine fb6.trans ?_
    rw [e7]
    exact fun a p q => ⟨rfl, rfl, fun k hk => ⟨by rw [ji_si, if_neg (by omega)]; rfl, rfl, by rw [jr_si, jr_sr, if_neg (by omega)]⟩, fun _ => ⟨rfl, rfl, rfl⟩⟩
  · rw [e7, jz_sr]; omega
  · rw [e7, jn_sr]; exact n6
  · rw [e7]; exact w1
theorem c_Ranges_add (C : RCx h S x b1 b2 tr pl so rw al ad) {i r : Nat} {a b : Int32} {h0 : jh} (hi1 : 1 ≤ i) (hi2 : i ≤ sN S) (e0 : h0 = jsr h 14 (ad i) (some r)) (z1 : jt h r = 3) (z2 : jr h 128 r = some (r + 1)) (z3 : jr h 129 r = some (r + 2)) (z4 : jt h (r + 1) = 20) (z5 : jt h (r + 2) = 20) (z6 : jn h (r + 1) = 8) (z7 : jn h (r + 2) = 8) (z8 : ∀ k, k < rg S i → jI h (r + 1) k = rf S k i ∧ jI h (r + 2) k = rt S k i) (z9 : ji h 130 r = nI (rg S i))
    (o1 : (r + 1 < b1 ∨ b2 < r + 1) ∧ (r + 2 < b1 ∨ b2 < r + 2)) (fr : ∀ j q, 1 ≤ j → j ≤ sN S → j ≠ i → jr h 14 (ad j) = some q → r + 1 ≠ q + 1 ∧ r + 1 ≠ q + 2 ∧ r ≠ q ∧ q + 1 ≠ r + 2)
    (hQ0 : ¬ rg S i < 8 → Q (.inl (some (.inl 0))) h0) (hQ1 : rg S i < 8 → ∀ h', RCx (jsi h' 451 x 0) (srg S i a b) x b1 b2 tr pl so rw al ad → FB b1 b2 h (jsi h' 451 x 0) → jz h' = jz h → jn h' al = jn h al → jt h' x = 8 → Q (.inl (some (.inl 1))) h') : jM g mX4_add [.inr (.inr (some r)), .inl a, .inl b] h0 0 0 Q := by
  obtain ⟨x1, x2, x3, x4, x5, x6, x7, x8, x9, x10, x11, x12, x13, x14, R, H, B, J, L⟩ := id C
  have h8 := R.wf.2.2.2.2.2.2.2.2.2.1 i
  refine eX4_add ⟨by rw [e0]; exact z1, ?_⟩
  have y9 : ji h0 130 r = nI (rg S i) := by rw [e0]; exact z9
  have y2 : jr h0 128 r = some (r + 1) := by rw [e0]; exact z2
  rw [y9, y2, jd_s, nI_clamp (by omega)]
  refine ⟨fun c => ⟨jsn, by rw [e0]; exact z4, ?_, ?_⟩, fun c => hQ0 (fun q => c ((nI_ltI (b := 8) (by omega) (by decide)).mpr q))⟩
  · rw [e0, jn_sr, z6]
    exact vp_in_nI ((nI_ltI (b := 8) (by omega) (by decide)).mp c) (by decide)
  · have c8 := (nI_ltI (b := 8) (by omega) (by decide)).mp c
    intro h1 e1
    have y3 : jr h1 129 r = some (r + 2) := by rw [e1, e0]; exact z3
    have y91 : ji h1 130 r = nI (rg S i) := by rw [e1, e0]; exact z9
    rw [y3, y91, jd_s, nI_clamp (by omega)]
    refine ⟨jsn, by rw [e1, e0]; exact z5, ?_, ?_⟩
    · rw [e1, e0, jn_sI, jn_sr, z7]
      exact vp_in_nI c8 (by decide)
    · intro h2 e2
      rw [show ji h2 130 r = nI (rg S i) by rw [e2, e1, e0]; exact z9, nI_1]
      intro h3 e3
      have key := C.rng hi1 hi2 c8 z1 z2 z3 z4 z5 z6 z7 z8 o1 fr (a := a) (b := b)
      rw [← e0, ← e1, ← e2, ← e3] at key
      exact hQ1 c8 h3 key.1 key.2 (by rw [e3, e2, e1, e0]; rfl) (by rw [e3, e2, e1, e0]; rfl) (by rw [e3, e2, e1, e0]; exact x1)
theorem c_tellRange (C : RCx h S x b1 b2 tr pl so rw al ad) {i : Nat} {a b : Int32} (hi1 : 1 ≤ i) (hi2 : i ≤ sN S)
    (hQ0 : ¬ (lv S i = 88 ∧ rg S i < 8) → Q (.inl (some (.inl 0))) h)
    (hQ1 : (lv S i = 88 ∧ rg S i < 8) → ∀ h', Tq h (srg S i a b) x b1 b2 tr pl so rw al ad h' → Q (.inl (some (.inl 1))) h') :
    jM g mX9_tellRange [.inr (.inr (rO ad i)), .inl a, .inl b] h 3 19 Q := by
  obtain ⟨x1, x2, x3, x4, x5, x6, x7, x8, x9, x10, x11, x12, x13, x14, R, H, B, J, L⟩ := id C
  have hi0 : ¬ i = 0 := by omega
  have hr := R.i hi1 hi2
  have l88 : ji h 1 (ad i) = 88 ↔ lv S i = 88 := by
    rw [← Int32.toInt_inj, R.lvl hi1 hi2]
    simp only [Int32.reduceToInt]
    omega
  obtain ⟨q1, q2⟩ := R.r hi1 hi2
  refine eX9_tellRange ⟨fun q => hi0 (rO_none.mp q), ?_⟩
  rw [rO_jd hi0, l88]
  refine ⟨hr.2.1, fun c => ⟨fun c2 => ?_, fun c2 => ?_⟩, fun c => hQ0 (fun q => c q.1)⟩
  · have g0 : ¬ rg S i = 0 := fun q => c2 (q1 q)
    obtain ⟨r, y1, y2, y3, y4, y5, y6, y7, y8, y9, y10⟩ := q2 g0
    rw [y1, jd_s]
    refine ⟨y2, c_Ranges_add C hi1 hi2 (jsr_id y1).symm y2 y3 y4 y5 y6 y7 y8 y10 y9 (B.2.2 i r hi1 hi2 y1) (fun j q p w hj e => ?_) (fun c3 => ⟨Or.inl rfl, hQ0 (fun q => c3 q.2)⟩) (fun c3 h' p1 p2 p3 p4 p5 => ⟨Or.inr rfl, hQ1 ⟨c, c3⟩ h' ⟨p1, p2, by omega, p4, p5⟩⟩)⟩
    have e1 := J.2.1 i j r q hi1 hi2 p w y1 e (fun z => hj z.symm)
    have e2 := J.2.1 j i q r p w hi1 hi2 e y1 hj
    exact ⟨e1.1, e1.2.1, e1.2.2, e2.2.1⟩
  · have g0 : rg S i = 0 := by
      by_cases q : rg S i = 0
      · exact q
      · obtain ⟨r, y1, -⟩ := q2 q
        rw [y1] at c2; cases c2
    refine ⟨by decide, by decide, ?_⟩
    intro h1 e1
    refine ⟨2, 16, by decide, by decide, ?_⟩
    refine eX4_init ⟨by decide, by decide, ?_⟩
    intro h2 e2
    have z1 : jz h1 = jz h + 1 := by rw [e1]; rfl
    have z2 : jz h2 = jz h + 2 := by rw [e2, jz_mk, z1]
    have t1 : jt h1 (jz h) = 3 := by rw [e1, jt_mk, if_pos rfl]
    have t2 : jt h2 (jz h) = 3 := by rw [e2, jt_mk, if_neg (by omega)]; exact t1
    refine ⟨t2, ?_⟩
    intro h3 e3
    refine ⟨by decide, by decide, ?_⟩
    have z3 : jz h3 = jz h + 2 := by rw [e3, jz_sr, z2]
    intro h4 e4
    have t4 : jt h4 (jz h) = 3 := by rw [e4, jt_mk, if_neg (by omega), e3, jt_sr]; exact t2
    refine ⟨t4, ?_⟩
    intro h5 e5 h6 e6
    rw [jkv_i]
    rw [z1] at e3
    rw [z3] at e5
    have z6 : jz h6 = jz h + 3 := by rw [e6, jz_si, e5, jz_sr, e4, jz_mk, z3]
    have sm : ∀ c, jt h c ≠ 0 → Sm h h6 c := fun c hc => by
      have hz := H c hc
      exact (((((Sm.mk e1 (by omega)).trans (Sm.mk e2 (by omega))).trans (Sm.sr e3 (by omega))).trans (Sm.mk e4 (by omega))).trans (Sm.sr e5 (by omega))).trans (Sm.si e6 (by omega))
    have H6 : HW h6 := by
      rw [e6, e5]
      refine HW.si (HW.sr ?_)
      rw [e4]
      refine HW.mk ?_
      rw [e3]
      refine HW.sr ?_
      rw [e2]
      refine HW.mk ?_
      rw [e1]
      exact H.mk (n := 0)
    obtain ⟨C6, fb6⟩ := C.grow (by omega) H6 sm
    obtain ⟨w1, w2, w3, w4, w5, w6, w7, w8, w9, w10, w11, w12, w13, w14, R6, -⟩ := id C6
    have n6 : jn h6 al = jn h al := (sm al (by rw [x12]; decide)).2.1
    refine ⟨(R6.i hi1 hi2).2.1, ?_⟩
    intro h7 e7
    have f1 : jr h7 14 (ad i) = some (jz h) := by rw [e7, jr_sr, if_pos ⟨rfl, rfl⟩]
    rw [f1, jd_s]
    have T0 : jt h6 (jz h) = 3 := by rw [e6, jt_si, e5, jt_sr]; exact t4
    have T1 : jt h6 (jz h + 1) = 20 := by rw [e6, jt_si, e5, jt_sr, e4, jt_mk, if_neg (by omega), e3, jt_sr, e2, jt_mk, if_pos (by omega)]
    have T2 : jt h6 (jz h + 2) = 20 := by rw [e6, jt_si, e5, jt_sr, e4, jt_mk, if_pos (by omega)]
    have N1 : jn h6 (jz h + 1) = 8 := by rw [e6, jn_si, e5, jn_sr, e4, jn_mk, if_neg (by omega), e3, jn_sr, e2, jn_mk, if_pos (by omega)]
    have N2 : jn h6 (jz h + 2) = 8 := by rw [e6, jn_si, e5, jn_sr, e4, jn_mk, if_pos (by omega)]
    have F1 : jr h6 128 (jz h) = some (jz h + 1) := by rw [e6, jr_si, e5, jr_sr, if_neg (by omega), e4, jr_mk, if_neg (by omega), e3, jr_sr, if_pos ⟨rfl, rfl⟩]
    have F2 : jr h6 129 (jz h) = some (jz h + 2) := by rw [e6, jr_si, e5, jr_sr, if_pos ⟨rfl, rfl⟩]
    have F3 : ji h6 130 (jz h) = nI (rg S i) := by rw [e6, ji_si, if_pos ⟨rfl, rfl⟩, g0]; rfl
    have hout : (jz h + 1 < b1 ∨ b2 < jz h + 1) ∧ (jz h + 2 < b1 ∨ b2 < jz h + 2) := by
      by_cases hb : b1 ≤ b2
      · have := B.1 hb; exact ⟨Or.inr (by omega), Or.inr (by omega)⟩
      · exact ⟨by omega, by omega⟩
    refine ⟨jsn, by rw [e7, jt_sr]; exact T0, c_Ranges_add C6 hi1 hi2 e7 T0 F1 F2 T1 T2 N1 N2 (fun k hk => by omega) F3 (hout) (fun j q p w hj e => ?_) (fun c3 => absurd (by rw [g0]; decide) c3) (fun c3 h' p1 p2 p3 p4 p5 => ⟨Or.inr rfl, hQ1 ⟨c, c3⟩ h' ⟨p1, fb6.trans p2, by omega, by omega, p5⟩⟩)⟩
    have s := sm (ad j) (by rw [(R.i p w).2.1]; decide)
    rw [(s.2.2.1 14).2.2] at e
    have g1 : ¬ rg S j = 0 := fun z => by rw [(R.r p w).1 z] at e; cases e
    obtain ⟨r, y1, y2, y3, y4, y5, y6, y7, y8, y9, y10⟩ := (R.r p w).2 g1
    rw [y1] at e
    cases e
    have k0 := H q (by rw [y2]; decide)
    have k1 := H (q + 1) (by rw [y5]; decide)
    have k2 := H (q + 2) (by rw [y6]; decide)
    clear x13 w13
    exact ⟨by omega, by omega, by omega, by omega⟩
end Cla2
