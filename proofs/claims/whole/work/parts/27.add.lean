/-! contracts: Tree.add -/
/-- a new item -/
def sadd (S : sg) (l u s : Nat) : sg :=
  (fun a j => if a = 0 ∧ j = 0 then sN S + 1 else if a = 17 then 0 else if a = 21 ∧ j = aro S l ∧ ¬ aro S l = 0 ∧ l ≤ 49 then l else if j = sN S + 1 then (if a = 1 then l else if a = 2 then u else if a = 3 then s else if a = 4 then (if l = 66 then 0 else aro S l) else if a = 5 then (if l = 1 ∨ l = 77 then sN S + 1 else rc S (sN S)) else S.1 a j) else S.1 a j, S.2)
/-- the items' cells, with one more -/
def adn (ad : Nat → Nat) (i z : Nat) : Nat → Nat := fun j => if j = i then z else ad j
/-- beyond the last item all numbers are 0 -/
def WZ (S : sg) : Prop := ∀ a i, sN S < i → 1 ≤ a → (a ≤ 16 ∨ a = 21 ∨ a = 22) → S.1 a i = 0
def WV (S : sg) : Prop := ∀ k i, k ≤ 20 → sN S < i → S.2 k i = 0
/-- what Tree.add does to the heap -/
def ADesc (h h' : jh) (S : sg) (tr rw : Nat) (ad : Nat → Nat) (l u s : Nat) : Prop :=
  jz h' = jz h + 2 ∧ jt h' (jz h) = 1 ∧ jt h' (jz h + 1) = 4 ∧ (∀ k, ji h' k (jz h + 1) = 0) ∧
  (ji h' 0 (jz h) = nI (sN S + 1) ∧ ji h' 1 (jz h) = nI l ∧ ji h' 2 (jz h) = nI u ∧ ji h' 3 (jz h) = nI s ∧ ji h' 4 (jz h) = nI (byts u s) ∧ ji h' 19 (jz h) = -1 ∧ jr h' 5 (jz h) = (if 49 < l then none else rO ad (aro S l)) ∧ jr h' 6 (jz h) = (if l = 88 then rO ad (aro S l) else none) ∧ jr h' 7 (jz h) = some (jz h + 1) ∧
    jr h' 8 (jz h) = (if l = 1 ∨ l = 77 ∨ sN S = 0 then some (jz h) else rO ad (rc S (sN S))) ∧ (∀ k, 4 < k → k ≠ 19 → ji h' k (jz h) = 0) ∧ (∀ k, k ≠ 5 → k ≠ 6 → k ≠ 7 → k ≠ 8 → jr h' k (jz h) = none)) ∧
  (jt h' tr = 7 ∧ jr h' 384 tr = some rw ∧ ji h' 385 tr = nI (sN S + 1)) ∧
  (jt h' rw = 23 ∧ jn h' rw = 121 ∧ ∀ i, jR h' rw i = if i = sN S + 1 then some (jz h) else jR h rw i) ∧
  (∀ i, 1 ≤ i → i ≤ sN S → jt h' (ad i) = jt h (ad i) ∧ (∀ k, jr h' k (ad i) = jr h k (ad i)) ∧ ∀ k, ji h' k (ad i) = if k = 9 ∧ i = aro S l ∧ l ≤ 49 then nI l else ji h k (ad i)) ∧
  (∀ c, c ≠ tr → c ≠ rw → (∀ i, 1 ≤ i → i ≤ sN S → c ≠ ad i) → (c ≠ jz h ∧ c ≠ jz h + 1) → Sm h h' c)
section Add2
variable {g : jg} {h : jh} {S : sg} {tr rw : Nat} {ad : Nat → Nat} {Q : jq}
theorem c_add0 (R : RTree h S tr rw ad) (W : WR S) (H : HW h) (hN : sN S < 120) {l u s : Nat} (hl : l ≤ 88) (hu : u ≤ 11) (hs : s ≤ 200) (hQ : ∀ h', ADesc h h' S tr rw ad l u s → Q (.inl none) h') : jM g mX8_add [.inr (.inr (some tr)), .inl (nI l), .inl (nI u), .inl (nI s)] h 2 26 Q := by
  have hle := aro_le W (l : Int)
  obtain ⟨r1, r2, r3, r4, r5, -⟩ := id R
  have hlt : tr ≠ jz h ∧ tr ≠ jz h + 1 := by have := H tr (by rw [r1]; decide); omega
  have hlr : rw ≠ jz h ∧ rw ≠ jz h + 1 := by have := H rw (by rw [r3]; decide); omega
  have hla : ∀ i, 1 ≤ i → i ≤ sN S → ad i ≠ jz h ∧ ad i ≠ jz h + 1 := fun i h1 h2 => by have := H (ad i) (by rw [(R.i h1 h2).2.1]; decide); omega
  have hat : ∀ i, 1 ≤ i → i ≤ sN S → ad i ≠ tr := fun i h1 h2 q => by have := (R.i h1 h2).2.1; rw [q, r1] at this; omega
  have har : ∀ i, 1 ≤ i → i ≤ sN S → ad i ≠ rw := fun i h1 h2 q => by have := (R.i h1 h2).2.1; rw [q, r3] at this; omega
  have htr : tr ≠ rw := fun q => by rw [q, r3] at r1; omega
  have eq1 : nI l = 1 ↔ l = 1 := nI_eq (b := 1) (by omega) (by decide)
  have eq77 : nI l = 77 ↔ l = 77 := nI_eq (b := 77) (by omega) (by decide)
  have eq88 : nI l = 88 ↔ l = 88 := nI_eq (b := 88) (by omega) (by decide)
  have lt49 : (49 : Int32) < nI l ↔ 49 < l := nI_ltI (a := 49) (by decide) (by omega)
  refine eX8_add ⟨R.tg, fun _ => ?_, fun c => ?_⟩
  · rw [R.told]
    refine c_find R ?_
    rw [jkr_i]
    refine ⟨R.tg, c_around R W ?_⟩
    rw [jkr_i, nI_toInt (by omega)]
    refine ⟨by decide, by decide, ?_⟩
    intro h1 e1
    have t1 : ∀ b, (b ≠ jz h ∧ b ≠ jz h + 1) → Sm h h1 b := fun b hb => Sm.mk e1 (by omega)
    refine ⟨by rw [(t1 tr hlt).1]; exact r1, 1, 6, by decide, by decide, ?_⟩
    rw [((t1 tr hlt).2.2.1 385).1, r5, nI_1]
    have hz1 : jz h1 = jz h + 1 := by rw [e1]; rfl
    refine c_Item_init (by omega) hs (by rw [e1, jt_mk, if_pos rfl]) (by rw [hz1]; omega) ?_
    intro h2 D
    obtain ⟨d1, d2, d3, d4, d5, d6, d7, d8, d9, d10, d11, d12, d13, d14, d15, d16⟩ := D
    rw [hz1] at d1 d2 d4 d5 d14
    rw [jkv_i]
    have t2 : ∀ b, (b ≠ jz h ∧ b ≠ jz h + 1) → Sm h h2 b := fun b hb => (t1 b hb).trans (d5 b (by omega) (by omega))
    have ht2 : jt h2 tr = 7 := by rw [(t2 tr hlt).1]; exact r1
    have key : ∀ so1 : Option Nat, so1 = (if l = 1 ∨ l = 77 ∨ sN S = 0 then some (jz h) else rO ad (rc S (sN S))) → VX8_add_75 g tr (nI l) (rO ad (aro S l)) (some (jz h)) (some (jz h)) so1 h2 (2 - 1 - 1) (26 - 20 - 6) Q := by
      intro so1 hso
      refine ⟨jsn, d3, ?_⟩
      intro h3 e3
      rw [jd_s] at e3
      have fin : ∀ h4 : jh, (∀ b, (b ≠ jz h ∧ b ≠ jz h + 1) → (∀ i, 1 ≤ i → i ≤ sN S → b ≠ ad i) → Sm h h4 b) → (∀ i, 1 ≤ i → i ≤ sN S → jt h4 (ad i) = jt h (ad i) ∧ (∀ k, jr h4 k (ad i) = jr h k (ad i)) ∧ ∀ k, ji h4 k (ad i) = if k = 9 ∧ i = aro S l ∧ l ≤ 49 then nI l else ji h k (ad i)) → Sm h3 h4 (jz h) → Sm h3 h4 (jz h + 1) → jz h4 = jz h3 → VX8_add_95 g tr (some (jz h)) h4 (2 - 1 - 1) (26 - 20 - 6) Q := by
        intro h4 p1 p2 p3 p4 p5
        have pt := p1 tr hlt (fun i a b => (hat i a b).symm)
        have pr := p1 rw hlr (fun i a b => (har i a b).symm)
        have z4 : jt h4 (jz h) = 1 := by rw [p3.1, e3]; exact d3
        refine ⟨by rw [pt.1]; exact r1, ?_⟩
        intro h5 e5
        have f1 : jr h5 384 tr = some rw := by rw [e5, jr_si, (pt.2.2.1 384).2.2]; exact r2
        have f2 : ji h5 385 tr = nI (sN S + 1) := by rw [e5, ji_si, if_pos ⟨rfl, rfl⟩, (pt.2.2.1 385).1, r5, nI_1]
        rw [f1, f2, jd_s, nI_clamp (by omega)]
        refine ⟨jsn, by rw [e5, jt_si, pr.1]; exact r3, ?_, jsn, by rw [e5, jt_si]; exact z4, ?_⟩
        · rw [e5, jn_si, pr.2.1, r4]
          exact vp_in_nI (by omega) (by decide)
        · intro h6 e6
          rw [jd_s] at e6
          have s56 : ∀ b, b ≠ tr → b ≠ rw → Sm h4 h6 b := fun b b1 b2 => (Sm.si e5 b1).trans (Sm.sR e6 b2)
          have zi := s56 (jz h) (by omega) (by omega)
          have zs := s56 (jz h + 1) (by omega) (by omega)
          have w3 : Sm h2 h3 (jz h + 1) := Sm.sr e3 (by omega)
          have zi2 : ∀ k, ji h6 k (jz h) = ji h2 k (jz h) := fun k => by rw [(zi.2.2.1 k).1, (p3.2.2.1 k).1, e3, ji_sr]
          have zr2 : ∀ k, jr h6 k (jz h) = if k = 8 then so1 else jr h2 k (jz h) := fun k => by rw [(zi.2.2.1 k).2.2, (p3.2.2.1 k).2.2, e3, jr_sr]; simp only [and_true]
          refine hQ h6 ⟨?_, ?_, ?_, ?_, ⟨?_, ?_, ?_, ?_, ?_, ?_, ?_, ?_, ?_, ?_, ?_, ?_⟩, ⟨?_, ?_, ?_⟩, ⟨?_, ?_, ?_⟩, ?_, ?_⟩
          · rw [e6, jz_sR, e5, jz_si, p5, e3, jz_sr, d1]
          · rw [zi.1]; exact z4
          · rw [zs.1, p4.1, w3.1]; exact d2
          · intro k
            rw [(zs.2.2.1 k).1, (p4.2.2.1 k).1, (w3.2.2.1 k).1]; exact d4 k
          · rw [zi2]; exact d6
          · rw [zi2]; exact d7
          · rw [zi2]; exact d8
          · rw [zi2]; exact d9
          · rw [zi2]; exact d10
          · rw [zi2]; exact d11
          · rw [zr2, if_neg (by decide), d12]; simp only [lt49]
          · rw [zr2, if_neg (by decide), d13]; simp only [eq88]
          · rw [zr2, if_neg (by decide)]; exact d14
          · rw [zr2, if_pos rfl]; exact hso
          · intro k k1 k2
            rw [zi2, d15 k k1 k2, e1, ji_mk, if_pos rfl]
          · intro k k1 k2 k3 k4
            rw [zr2, if_neg k4, d16 k k1 k2 k3, e1, jr_mk, if_pos rfl]
          · rw [e6, jt_sR, e5, jt_si, pt.1]; exact r1
          · rw [e6, jr_sR]; exact f1
          · rw [e6, ji_sR]; exact f2
          · rw [e6, jt_sR, e5, jt_si, pr.1]; exact r3
          · rw [e6, jn_sR, e5, jn_si, pr.2.1]; exact r4
          · intro i
            rw [e6, jR_sR, e5, jR_si, (pr.2.2.2 i).2.2]
            simp only [true_and]
          · intro i a b
            have q := s56 (ad i) (hat i a b) (har i a b)
            have q2 := p2 i a b
            exact ⟨q.1.trans q2.1, fun k => ((q.2.2.1 k).2.2).trans (q2.2.1 k), fun k => ((q.2.2.1 k).1).trans (q2.2.2 k)⟩
          · intro c c1 c2 c3 c4
            exact (p1 c c4 c3).trans (s56 c c1 c2)
      have s3 : ∀ b, (b ≠ jz h ∧ b ≠ jz h + 1) → Sm h h3 b := fun b hb => (t2 b hb).trans (Sm.sr e3 (by omega))
      refine ⟨fun c => ?_, fun c => ⟨fun c2 => ?_, fun c2 => ⟨?_, ?_⟩⟩⟩
      · have ha := rO_none.mp c
        refine fin h3 (fun b hb _ => s3 b hb) (fun i a b => ?_) Sm.rf Sm.rf rfl
        have q := s3 (ad i) (hla i a b)
        refine ⟨q.1, fun k => (q.2.2.1 k).2.2, fun k => ?_⟩
        rw [if_neg (by omega)]
        exact (q.2.2.1 k).1
      · rw [lt49] at c2
        refine fin h3 (fun b hb _ => s3 b hb) (fun i a b => ?_) Sm.rf Sm.rf rfl
        have q := s3 (ad i) (hla i a b)
        refine ⟨q.1, fun k => (q.2.2.1 k).2.2, fun k => ?_⟩
        rw [if_neg (by omega)]
        exact (q.2.2.1 k).1
      · have ha : ¬ aro S l = 0 := fun q => c (rO_none.mpr q)
        rw [rO_jd ha, (s3 _ (hla _ (by omega) hle)).1]
        exact (R.i (by omega) hle).2.1
      · rw [lt49] at c2
        have ha : ¬ aro S l = 0 := fun q => c (rO_none.mpr q)
        rw [rO_jd ha]
        intro h4 e4
        have hlp := hla _ (show 1 ≤ aro S l by omega) hle
        refine fin h4 (fun b hb hne => (s3 b hb).trans (Sm.si e4 (hne _ (by omega) hle))) (fun i a b => ?_) (Sm.si e4 (by omega)) (Sm.si e4 (by omega)) (by rw [e4]; rfl)
        have q := s3 (ad i) (hla i a b)
        refine ⟨by rw [e4, jt_si]; exact q.1, fun k => by rw [e4, jr_si]; exact (q.2.2.1 k).2.2, fun k => ?_⟩
        rw [e4, ji_si, (q.2.2.1 k).1]
        by_cases hk : k = 9 ∧ i = aro S l
        · rw [if_pos ⟨hk.1, by rw [hk.2]⟩, if_pos ⟨hk.1, hk.2, by omega⟩]
        · rw [if_neg (fun z => hk ⟨z.1, R.inj a b (by omega) hle z.2⟩), if_neg (fun z => hk ⟨z.1, z.2.1⟩)]
    rw [eq1, eq77, fnd_nI (by omega) (by omega)]
    refine ⟨fun c => key _ (if_pos (Or.inl c)).symm, fun c => ⟨fun c2 => key _ (if_pos (Or.inr (Or.inl c2))).symm, fun c2 => ⟨fun c3 => ?_, fun c3 => ?_⟩⟩⟩
    · have h0 : ¬ sN S = 0 := by
        intro q
        apply c3
        rw [if_neg (by omega)]
        rfl
      rw [if_pos (by omega), rO_jd h0]
      have hi := R.i (i := sN S) (by omega) (Nat.le_refl _)
      have q := t2 (ad (sN S)) (hla (sN S) (by omega) (Nat.le_refl _))
      refine ⟨by rw [q.1]; exact hi.2.1, ?_⟩
      refine key _ ?_
      rw [(q.2.2.1 8).2.2, hi.2.2.2.2.2.2.2.2.2.2.2.1, if_neg (by omega)]
    · have h0 : sN S = 0 := by
        rw [rO_none] at c3
        by_cases q : sN S = 0
        · exact q
        · rw [if_pos (by omega)] at c3; omega
      exact key _ (if_pos (Or.inr (Or.inr h0))).symm
  · exfalso
    rw [R.told, show (120 : Int32) = nI 120 from rfl, nI_ltI (by omega) (by decide)] at c
    omega
end Add2
