/-! contracts: clause, the end -/
section Cla3
variable {g : jg} {h : jh} {S : sg} {x b1 b2 tr pl so rw al : Nat} {ad : Nat → Nat} {Q : jq}
theorem RCx.refl (C : RCx h S x b1 b2 tr pl so rw al ad) : RCx h S x b1 b2 tr pl so rw al ad ∧ FB b1 b2 h h := ⟨C, FB.rf⟩
theorem c_tellClause (C : RCx h S x b1 b2 tr pl so rw al ad) {i : Nat} {k a b : Int32} (hi1 : 1 ≤ i) (hi2 : i ≤ sN S) (ok : okC k.toInt a.toInt b.toInt = true) (h5 : k = 5 → ¬ fnd S a = 0 ∧ ¬ fnd S b = 0)
    (hQ0 : stell S i k a b = none → ∀ h', RCx h' S x b1 b2 tr pl so rw al ad → FB b1 b2 h h' → jz h' ≤ jz h + 3 → jn h' al = jn h al → Q (.inl (some (.inl 0))) h')
    (hQ1 : ∀ S', stell S i k a b = some S' → ∀ h', Tq h S' x b1 b2 tr pl so rw al ad h' → Q (.inl (some (.inl 1))) h') :
    jM g mX9_tellClause [.inr (.inr (some x)), .inr (.inr (rO ad i)), .inl k, .inl a, .inl b] h 3 19 Q := by
  obtain ⟨x1, x2, x3, x4, x5, x6, x7, x8, x9, x10, x11, x12, x13, x14, R, H, B, J, L⟩ := id C
  have hN := R.N
  have hi0 : ¬ i = 0 := by omega
  have bk := of_decide_eq_true ok
  have same : stell S i k a b = none → Q (.inl (some (.inl 0))) h := fun e => hQ0 e h C FB.rf (by omega) rfl
  refine eX9_tellClause ⟨fun c => ⟨by decide, by decide, ?_⟩, fun c => ⟨by decide, by decide, ?_⟩, fun c => ?_, fun c => ?_, fun c => ⟨3, 19, Nat.le_refl _, Nat.le_refl _, ?_⟩, fun c => ⟨x1, ?_⟩, fun c => ?_⟩
  · subst c
    simp only [Int32.reduceToInt] at bk
    have hs : stell S i 0 a b = if okT S i false = true then some (stab S i 1 a.toInt.toNat a.toInt.toNat) else none := if_pos rfl
    refine c_newTable (d := false) C hi1 hi2 (by omega) (by omega) (fun q => hQ0 (by rw [hs, q]; rfl)) (fun q => hQ1 _ (by rw [hs, q]; rfl))
  · subst c
    simp only [Int32.reduceToInt] at bk
    have hs : stell S i 1 a b = if okT S i true = true then some (stab S i 2 a.toInt.toNat b.toInt.toNat) else none := by unfold stell; rw [if_neg (by decide), if_pos rfl]
    refine c_newTable (d := true) C hi1 hi2 (by omega) (by omega) (fun q => hQ0 (by rw [hs, q]; rfl)) (fun q => hQ1 _ (by rw [hs, q]; rfl))
  · subst c
    simp only [Int32.reduceToInt] at bk
    have hs : stell S i 2 a b = if 8 ≤ us S i ∧ us S i ≤ 11 ∧ sy S i = 0 then some (sset S 10 i 1) else none := by unfold stell; rw [if_neg (by decide), if_neg (by decide), if_pos rfl]
    refine c_tellSync R hi1 hi2 (fun q => ⟨Or.inl rfl, same (by rw [hs, if_neg q])⟩) (fun q h' e => ⟨Or.inr rfl, hQ1 _ (by rw [hs, if_pos q]) h' ⟨?_, ?_, by rw [e, jz_si]; omega, by rw [e]; rfl, by rw [e]; exact x1⟩⟩)
    · rw [e]
      obtain ⟨r1, r2, r3, r4, r5, r6, r7⟩ := id R
      have hsy : ∀ j, sy (sset S 10 i 1) j = if j = i then 1 else sy S j := fun j => by unfold sy; rw [sset_at (by decide)]; simp only [true_and]
      refine ⟨x1, x2, x3, x4, by rw [ji_si, if_pos ⟨rfl, rfl⟩]; rfl, x6, x7, x8, x9, x10, x11, x12, x13, x14, ⟨r1, r2, r3, r4, r5, ?_, fun j p w => ⟨?_, (r7 j p w).2⟩⟩, H, B, J, fun z => by cases z⟩
      · obtain ⟨f1, f2, f3, f4, f5, f6, f7, f8, f9, f10, f11, f12, f13, f14, f15, f16, f17, f18, f19⟩ := r6
        refine ⟨f1, f2, f3, f4, f5, f6, f7, f8, f9, f10, f11, f12, f13, f14, f15, fun j => ?_, f17, f18, f19⟩
        rw [hsy]; split; omega; exact f16 j
      · obtain ⟨x1, x2, x3, x4, x5, x6, x7, x8, x9, x10, x11, x12, x13, x14, x15, x16, x17, x18, x19, x20, x21⟩ := (r7 j p w).1
        refine ⟨x1, x2, x3, x4, x5, x6, x7, x8, x9, x10, x11, x12, x13, ?_, x15, x16, x17, x18, x19, x20, x21⟩
        rw [hsy, ji_si, if_neg (by omega), ji_si]
        by_cases z : j = i
        · rw [if_pos ⟨rfl, by rw [z]⟩, if_pos z]; rfl
        · rw [if_neg (fun y => z (R.inj p w hi1 hi2 y.2)), if_neg z]; exact x14
    · rw [e]
      exact fun a p q => ⟨rfl, rfl, fun k hk => ⟨by rw [ji_si, if_neg (by omega), ji_si, if_neg (by omega)], rfl, rfl⟩, fun _ => ⟨rfl, rfl, rfl⟩⟩
  · subst c
    simp only [Int32.reduceToInt] at bk
    have hs : stell S i 3 a b = if okN (us S i) = true ∧ va S i = 0 ∧ aside S i = false ∧ room (dg S i) a.toInt = true then some (svl (sset S 11 i 1) i a) else none := by unfold stell; rw [if_neg (by decide), if_neg (by decide), if_neg (by decide), if_pos rfl]
    refine c_tellValue R hi1 hi2 (fun q => ⟨Or.inl rfl, same (by rw [hs, if_neg q])⟩) (fun q h' e => ⟨Or.inr rfl, hQ1 _ (by rw [hs, if_pos q]) h' ⟨?_, ?_, by rw [e, jz_si, jz_si]; omega, by rw [e]; rfl, by rw [e]; exact x1⟩⟩)
    · rw [e]
      obtain ⟨r1, r2, r3, r4, r5, r6, r7⟩ := id R
      have hva : ∀ j, va (svl (sset S 11 i 1) i a) j = if j = i then 1 else va S j := fun j => by show va (sset S 11 i 1) j = _; unfold va; rw [sset_at (by decide)]; simp only [true_and]
      have hvl : ∀ j, vl (svl (sset S 11 i 1) i a) j = if j = i then a else vl S j := fun j => by unfold vl svl; simp only [true_and]; rfl
      refine ⟨x1, x2, x3, x4, by rw [ji_si, if_pos ⟨rfl, rfl⟩]; rfl, x6, x7, x8, x9, x10, x11, x12, x13, x14, ⟨r1, r2, r3, r4, r5, ?_, fun j p w => ⟨?_, (r7 j p w).2.1, ?_⟩⟩, H, B, J, fun z => by cases z⟩
      · obtain ⟨f1, f2, f3, f4, f5, f6, f7, f8, f9, f10, f11, f12, f13, f14, f15, f16, f17, f18, f19⟩ := r6
        refine ⟨f1, f2, f3, f4, f5, f6, f7, f8, f9, f10, f11, f12, f13, f14, f15, f16, fun j => ?_, f18, f19⟩
        rw [hva]; split; omega; exact f17 j
      · obtain ⟨x1, x2, x3, x4, x5, x6, x7, x8, x9, x10, x11, x12, x13, x14, x15, x16, x17, x18, x19, x20, x21⟩ := (r7 j p w).1
        refine ⟨x1, x2, x3, x4, x5, x6, x7, x8, x9, x10, x11, x12, x13, x14, ?_, ?_, x17, x18, x19, x20, x21⟩
        · rw [hva, ji_si, if_neg (by omega), ji_si, if_neg (by omega), ji_si]
          by_cases z : j = i
          · rw [if_pos ⟨rfl, by rw [z]⟩, if_pos z]; rfl
          · rw [if_neg (fun y => z (R.inj p w hi1 hi2 y.2)), if_neg z]; exact x15
        · rw [hvl, ji_si, if_neg (by omega), ji_si]
          by_cases z : j = i
          · rw [if_pos ⟨rfl, by rw [z]⟩, if_pos z]
          · rw [if_neg (fun y => z (R.inj p w hi1 hi2 y.2)), if_neg z]; exact x16
      · obtain ⟨q1, q2⟩ := (r7 j p w).2.2
        refine ⟨q1, fun y => ?_⟩
        obtain ⟨r, y1, y2, y3, y4, y5, y6, y7, y8, y9, y10⟩ := q2 y
        refine ⟨r, y1, y2, y3, y4, y5, y6, y7, y8, y9, fun k hk => ?_⟩
        have e1 : rf (svl (sset S 11 i 1) i a) k j = rf S k j := by unfold rf svl; show (if 1 + k = 0 ∧ j = i then a else _) = _; rw [if_neg (by omega)]; rfl
        have e2 : rt (svl (sset S 11 i 1) i a) k j = rt S k j := by unfold rt svl; show (if 11 + k = 0 ∧ j = i then a else _) = _; rw [if_neg (by omega)]; rfl
        rw [e1, e2]
        exact y10 k hk
    · rw [e]
      exact fun a p q => ⟨rfl, rfl, fun k hk => ⟨by rw [ji_si, if_neg (by omega), ji_si, if_neg (by omega), ji_si, if_neg (by omega)], rfl, rfl⟩, fun _ => ⟨rfl, rfl, rfl⟩⟩
  · subst c
    simp only [Int32.reduceToInt] at bk
    have hs : stell S i 4 a b = if lv S i = 88 ∧ rg S i < 8 then some (srg S i a b) else none := by unfold stell; rw [if_neg (by decide), if_neg (by decide), if_neg (by decide), if_neg (by decide), if_pos rfl]
    refine c_tellRange C hi1 hi2 (fun q => ⟨Or.inl rfl, same (by rw [hs, if_neg q])⟩) (fun q h' e => ⟨Or.inr rfl, hQ1 _ (by rw [hs, if_pos q]) h' e⟩)
  · obtain ⟨fa, fb⟩ := h5 c
    subst c
    have la := fnd_le S a R.N
    have lb' := fnd_le S b R.N
    have hs : stell S i 5 a b = if okPt S i (fnd S a) (fnd S b) = true then some (sset (sset S 13 i (fnd S a)) 14 i (fnd S b)) else none := by unfold stell; rw [if_neg (by decide), if_neg (by decide), if_neg (by decide), if_neg (by decide), if_neg (by decide)]
    rw [x2, jd_s]
    refine ⟨jsn, R.tg, c_find R ?_⟩
    rw [jkr_i]
    rw [x2, jd_s]
    refine ⟨x1, jsn, R.tg, c_find R ?_⟩
    rw [jkr_i]
    refine c_tellPart R hi1 hi2 (by omega) la (by omega) lb' (fun q => ⟨Or.inl rfl, same (by rw [hs, q]; rfl)⟩) (fun q h' e => ⟨Or.inr rfl, hQ1 _ (by rw [hs, q]; rfl) h' ⟨?_, ?_, by rw [e, jz_sr, jz_sr]; omega, by rw [e]; rfl, by rw [e]; exact x1⟩⟩)
    · rw [e]
      have w9 := R.wf.2.2.2.2.2.2.2.2.2.2.2.1
      obtain ⟨g1, g2, g3, g4, g5, g6, g7, g8⟩ := of_decide_eq_true q
      obtain ⟨r1, r2, r3, r4, r5, r6, r7⟩ := id R
      generalize fnd S a = fa' at *
      generalize fnd S b = fb' at *
      have hrn : ∀ j, rn (sset (sset S 13 i fa') 14 i fb') j = if j = i then fa' else rn S j := fun j => by unfold rn; rw [sset_o (by decide) (by decide), sset_at (by decide)]; simp only [true_and]
      have hrm : ∀ j, rm (sset (sset S 13 i fa') 14 i fb') j = if j = i then fb' else rm S j := fun j => by unfold rm; rw [sset_at (by decide)]; simp only [true_and]; rw [sset_o (by decide) (by decide)]
      refine ⟨x1, x2, x3, x4, by rw [ji_si, if_pos ⟨rfl, rfl⟩]; rfl, x6, x7, x8, x9, x10, x11, x12, x13, x14, ⟨r1, r2, r3, r4, r5, ?_, fun j p w => ⟨?_, (r7 j p w).2⟩⟩, H, B, J, fun z => by cases z⟩
      · obtain ⟨f1, f2, f3, f4, f5, f6, f7, f8, f9, f10, f11, f12, f13, f14, f15, f16, f17, f18, f19⟩ := r6
        refine ⟨f1, f2, f3, f4, f5, f6, f7, f8, f9, f10, f11, f12, f13, fun j => ?_, fun j => ?_, f16, f17, f18, f19⟩
        · rw [hrn]; split; exact la; exact f14 j
        · rw [hrm]; split; exact lb'; exact f15 j
      · obtain ⟨x1, x2, x3, x4, x5, x6, x7, x8, x9, x10, x11, x12, x13, x14, x15, x16, x17, x18, x19, x20, x21⟩ := (r7 j p w).1
        refine ⟨x1, x2, x3, x4, x5, x6, x7, x8, x9, x10, x11, x12, x13, x14, x15, x16, ?_, ?_, x19, x20, x21⟩
        · rw [hrn, jr_si, jr_sr, if_neg (by omega), jr_sr]
          by_cases z : j = i
          · rw [if_pos ⟨rfl, by rw [z]⟩, if_pos z]
          · rw [if_neg (fun y => z (R.inj p w hi1 hi2 y.2)), if_neg z]; exact x17
        · rw [hrm, jr_si, jr_sr]
          by_cases z : j = i
          · rw [if_pos ⟨rfl, by rw [z]⟩, if_pos z]
          · rw [if_neg (fun y => z (R.inj p w hi1 hi2 y.2)), if_neg z, jr_sr, if_neg (by omega)]; exact x18
    · rw [e]
      exact fun a p q => ⟨rfl, rfl, fun k hk => ⟨by rw [ji_si, if_neg (by omega)]; rfl, rfl, by rw [jr_si, jr_sr, if_neg (by omega), jr_sr, if_neg (by omega)]⟩, fun _ => ⟨rfl, rfl, rfl⟩⟩
  · exfalso; clear x13; omega
theorem c_clause (C : RCx h S x b1 b2 tr pl so rw al ad) {u k a b : Int32} (hQ : ∀ h', RC h' (scla S u k a b).2 x b1 b2 (jn h al) → FB b1 b2 h h' → jz h' ≤ jz h + 3 → Q (.inl (some (.inl (scla S u k a b).1))) h') : jM g mX9_clause [.inr (.inr (some x)), .inl u, .inl k, .inl a, .inl b] h 3 19 Q := by
  obtain ⟨x1, x2, x3, x4, x5, x6, x7, x8, x9, x10, x11, x12, x13, x14, R, H, B, J, L⟩ := id C
  have hu := fnd_le S u R.N
  have same : ∀ r : Int32, scla S u k a b = (r, S) → Q (.inl (some (.inl r))) h := fun r e => by
    have := hQ h (by rw [e]; exact ⟨tr, pl, so, rw, al, ad, C, rfl⟩) FB.rf (by omega)
    rw [e] at this
    exact this
  have key : ¬ fnd S u = 0 → (k = 5 → ¬ fnd S a = 0 ∧ ¬ fnd S b = 0) → VX9_clause_49 g x k a b (rO ad (fnd S u)) h 3 19 Q := by
    intro f0 f5
    have hn : ¬ (fnd S u = 0 ∨ (k = 5 ∧ (fnd S a = 0 ∨ fnd S b = 0))) := by
      rintro (q | ⟨q, w⟩)
      · exact f0 q
      · have := f5 q; omega
    refine c_isClause ?_
    rw [jki_i, jb_0]
    refine ⟨fun c => ⟨x1, 3, 19, Nat.le_refl _, Nat.le_refl _, ?_⟩, fun c => same _ (by unfold scla; rw [if_neg hn, if_pos c])⟩
    have ok : okC k.toInt a.toInt b.toInt = true := by simpa using c
    refine c_tellClause C (by omega) hu ok f5 (fun e h' p1 p2 p3 p4 => ?_) (fun S' e h' T => ?_)
    · rw [jki_i]
      refine ⟨fun q => absurd rfl q, fun _ => ?_⟩
      have e' : scla S u k a b = (0, S) := by unfold scla; rw [if_neg hn, if_neg c, e]
      have := hQ h' (by rw [e']; exact ⟨tr, pl, so, rw, al, ad, p1, p4⟩) p2 p3
      rw [e'] at this
      exact this
    · rw [jki_i]
      obtain ⟨t1, t2, t3, t4, t5⟩ := T
      refine ⟨fun _ => ⟨t5, ?_⟩, fun q => by cases q⟩
      intro h2 e2
      have e' : scla S u k a b = (1, S') := by unfold scla; rw [if_neg hn, if_neg c, e]
      rw [← e2] at t1 t2
      have := hQ h2 (by rw [e']; exact ⟨tr, pl, so, rw, al, ad, t1, by rw [e2, jn_si]; exact t4⟩) t2 (by rw [e2, jz_si]; exact t3)
      rw [e'] at this
      exact this
  refine eX9_clause ⟨x1, ?_⟩
  rw [x2, jd_s]
  refine ⟨jsn, R.tg, c_find R ?_⟩
  rw [jkr_i]
  refine ⟨fun c => ?_, fun c => same _ (if_pos (Or.inl (rO_none.mp c)))⟩
  have f0 : ¬ fnd S u = 0 := fun q => c (rO_none.mpr q)
  refine ⟨fun c2 => key f0 (fun q => absurd q c2), fun c2 => ⟨x1, ?_⟩⟩
  rw [x2, jd_s]
  refine ⟨jsn, R.tg, c_find R ?_⟩
  rw [jkr_i]
  rw [x2, jd_s]
  refine ⟨fun c3 => same _ (if_pos (Or.inr ⟨c2, Or.inl (rO_none.mp c3)⟩)), fun c3 => ⟨x1, jsn, R.tg, c_find R ?_⟩⟩
  rw [jkr_i]
  exact ⟨fun c4 => key f0 (fun _ => ⟨fun q => c3 (rO_none.mpr q), fun q => c4 (rO_none.mpr q)⟩), fun c4 => same _ (if_pos (Or.inr ⟨c2, Or.inr (rO_none.mp c4)⟩))⟩
end Cla3
