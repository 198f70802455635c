/-! the tree behind Tree.add -/
section Add3
variable {h h' : jh} {S : sg} {tr rw : Nat} {ad : Nat → Nat} {l u s : Nat}
theorem sadd_N : sN (sadd S l u s) = sN S + 1 := rfl
theorem sadd_at {a : Nat} (h0 : a ≠ 0) (h1 : a ≠ 17) (h2 : a ≠ 21) (j : Nat) : (sadd S l u s).1 a j = if j = sN S + 1 then (if a = 1 then l else if a = 2 then u else if a = 3 then s else if a = 4 then (if l = 66 then 0 else aro S l) else if a = 5 then (if l = 1 ∨ l = 77 then sN S + 1 else rc S (sN S)) else S.1 a j) else S.1 a j := by
  unfold sadd
  simp only [h0, h1, h2, false_and, if_false]
theorem sadd_keep {a : Nat} (h0 : a ≠ 0) (h1 : a ≠ 17) (h2 : a ≠ 21) {j : Nat} (hj : a ≤ 5 → j ≠ sN S + 1) : (sadd S l u s).1 a j = S.1 a j := by
  rw [sadd_at h0 h1 h2]
  by_cases hc : j = sN S + 1
  · rw [if_pos hc]
    have : ¬ a ≤ 5 := fun q => hj q hc
    rw [if_neg (by omega), if_neg (by omega), if_neg (by omega), if_neg (by omega), if_neg (by omega)]
  · rw [if_neg hc]
theorem sadd_lb (j : Nat) : lb (sadd S l u s) j = if j = aro S l ∧ ¬ aro S l = 0 ∧ l ≤ 49 then l else S.1 21 j := by
  unfold lb sadd
  simp only [show ¬ (21 = 0 ∧ j = 0) from by omega, show ¬ 21 = 17 from by decide, if_false, true_and]
  split
  · rfl
  · split
    · rfl
    · rfl
theorem sadd_lv (j : Nat) : lv (sadd S l u s) j = if j = sN S + 1 then l else lv S j := sadd_at (by decide) (by decide) (by decide) j
theorem sadd_us (j : Nat) : us (sadd S l u s) j = if j = sN S + 1 then u else us S j := sadd_at (by decide) (by decide) (by decide) j
theorem sadd_dg (j : Nat) : dg (sadd S l u s) j = if j = sN S + 1 then s else dg S j := sadd_at (by decide) (by decide) (by decide) j
theorem sadd_pa (j : Nat) : pa (sadd S l u s) j = if j = sN S + 1 then (if l = 66 then 0 else aro S l) else pa S j := sadd_at (by decide) (by decide) (by decide) j
theorem sadd_rc (j : Nat) : rc (sadd S l u s) j = if j = sN S + 1 then (if l = 1 ∨ l = 77 then sN S + 1 else rc S (sN S)) else rc S j := sadd_at (by decide) (by decide) (by decide) j
theorem sadd_o {a : Nat} (h0 : 5 < a) (h1 : a ≠ 17) (h2 : a ≠ 21) (j : Nat) : (sadd S l u s).1 a j = S.1 a j := sadd_keep (by omega) h1 h2 (fun q => by omega)
theorem sadd_cpa_old {i : Nat} (hi : i ≤ sN S) : cpa (sadd S l u s) i = cpa S i := by
  have hne : ¬ i = sN S + 1 := by omega
  unfold cpa
  simp only [sadd_lv, sadd_pa, if_neg hne]
theorem sadd_nam_old {i : Nat} (hi : i ≤ sN S) : nam (sadd S l u s) i = nam S i := by
  have hne : ¬ i = sN S + 1 := by omega
  unfold nam
  simp only [sadd_lv, sadd_pa, if_neg hne]
theorem rO_adn {i z j : Nat} (hj : j ≠ i) : rO (adn ad i z) j = rO ad j := by
  unfold rO adn
  rw [if_neg hj]
theorem okP_ne (W : okP S l = true) (h1 : l ≠ 1) (h7 : l ≠ 77) : ¬ aro S l = 0 ∧ ¬ sN S = 0 := by
  have h := of_decide_eq_true W
  have ha : ¬ aro S l = 0 := by
    rcases h with q | q | ⟨q, -⟩
    · omega
    · omega
    · exact q
  refine ⟨ha, fun h0 => ha ?_⟩
  unfold aro topRec
  rw [h0]
  simp [lastNN, lesser]
theorem WF.add (F : WF S) (W : WR S) (Z : WZ S) (hN : sN S < 120) (hl : l ≤ 88) (hu : u ≤ 11) (hs : s ≤ 200) : WF (sadd S l u s) := by
  have hle := aro_le W (l : Int)
  obtain ⟨f1, f2, f3, f4, f5, f6, f7, f8, f9, f10, f11, f12, f13, f14, f15, f16, f17, f18, f19⟩ := F
  refine ⟨by rw [sadd_N]; omega, fun i hi => ?_, fun i => ?_, fun i => ?_, fun i => ?_, fun i => ?_, fun i => ?_, fun i => ?_, fun i => ?_, fun i => ?_, fun i => ?_, fun i => ?_, fun i => ?_, fun i => ?_, fun i => ?_, fun i => ?_, fun i => ?_, fun i => ?_, fun i => ?_⟩
  · rw [sadd_pa]
    split
    · split <;> omega
    · exact f2 i hi
  · rw [sadd_lv]; split
    · exact hl
    · exact f3 i
  · rw [sadd_us]; split
    · exact hu
    · exact f4 i
  · rw [sadd_dg]; split
    · exact hs
    · exact f5 i
  · rw [show tb (sadd S l u s) i = tb S i from sadd_o (by decide) (by decide) (by decide) i]; exact f6 i
  · rw [show mo (sadd S l u s) i = mo S i from sadd_o (by decide) (by decide) (by decide) i]; exact f7 i
  · rw [show nw (sadd S l u s) i = nw S i from sadd_o (by decide) (by decide) (by decide) i, show mo (sadd S l u s) i = mo S i from sadd_o (by decide) (by decide) (by decide) i]; exact f8 i
  · rw [show le (sadd S l u s) i = le S i from sadd_o (by decide) (by decide) (by decide) i, show mo (sadd S l u s) i = mo S i from sadd_o (by decide) (by decide) (by decide) i]; exact f9 i
  · rw [show rg (sadd S l u s) i = rg S i from sadd_o (by decide) (by decide) (by decide) i]; exact f10 i
  · rw [show na (sadd S l u s) i = na S i from sadd_o (by decide) (by decide) (by decide) i]; exact f11 i
  · rw [sadd_rc]; split
    · split
      · omega
      · have := f12 (sN S); omega
    · exact f12 i
  · rw [show ot (sadd S l u s) i = ot S i from sadd_o (by decide) (by decide) (by decide) i]; exact f13 i
  · rw [show rn (sadd S l u s) i = rn S i from sadd_o (by decide) (by decide) (by decide) i, sadd_N]; have := f14 i; omega
  · rw [show rm (sadd S l u s) i = rm S i from sadd_o (by decide) (by decide) (by decide) i, sadd_N]; have := f15 i; omega
  · rw [show sy (sadd S l u s) i = sy S i from sadd_o (by decide) (by decide) (by decide) i]; exact f16 i
  · rw [show va (sadd S l u s) i = va S i from sadd_o (by decide) (by decide) (by decide) i]; exact f17 i
  · rw [show rd (sadd S l u s) i = rd S i from sadd_o (by decide) (by decide) (by decide) i]; exact f18 i
  · rw [sadd_lb]; split
    · omega
    · exact f19 i
theorem RTree.add (R : RTree h S tr rw ad) (W : WR S) (Z : WZ S) (V : WV S) (H : HW h) (hN : sN S < 120) (hl : l ≤ 88) (hu : u ≤ 11) (hs : s ≤ 200) (ok : okP S l = true) (D : ADesc h h' S tr rw ad l u s) : RTree h' (sadd S l u s) tr rw (adn ad (sN S + 1) (jz h)) := by
  have hle := aro_le W (l : Int)
  obtain ⟨r1, r2, r3, r4, r5, r6, r7⟩ := id R
  obtain ⟨d1, d2, d3, d4, ⟨i0, i1, i2, i3, i4, i19, k5, k6, k7, k8, iz, kz⟩, ⟨t1, t2, t3⟩, ⟨w1, w2, w3⟩, od, sm⟩ := D
  refine ⟨t1, t2, w1, w2, t3, r6.add W Z hN hl hu hs, fun i hi1 hi2 => ?_⟩
  rw [sadd_N] at hi2
  by_cases hi : i = sN S + 1
  · subst hi
    have hz := Z
    have e : adn ad (sN S + 1) (jz h) (sN S + 1) = jz h := if_pos rfl
    refine ⟨?_, ?_, ?_⟩
    · unfold RI
      rw [e]
      refine ⟨by rw [w3, if_pos rfl], d2, i0, ?_, ?_, ?_, ?_, ?_, ?_, k7, d3, ?_, ?_, ?_, ?_, ?_, ?_, ?_, ?_, ?_, ?_⟩
      · rw [i1, sadd_lv, if_pos rfl]
      · rw [i2, sadd_us, if_pos rfl]
      · rw [i3, sadd_dg, if_pos rfl]
      · rw [i4, sadd_us, if_pos rfl, sadd_dg, if_pos rfl]
      · rw [k5]
        unfold cpa
        rw [sadd_lv, if_pos rfl, sadd_pa, if_pos rfl]
        by_cases hc : 49 < l
        · rw [if_pos hc, if_neg (by omega)]; rfl
        · rw [if_neg hc, if_pos (by omega), if_neg (by omega), rO_adn (by omega)]
      · rw [k6]
        unfold nam
        rw [sadd_lv, if_pos rfl, sadd_pa, if_pos rfl]
        by_cases hc : l = 88
        · rw [if_pos hc, if_pos hc, if_neg (by omega), rO_adn (by omega)]
        · rw [if_neg hc, if_neg hc]; rfl
      · rw [k8, sadd_rc, if_pos rfl]
        by_cases hc : l = 1 ∨ l = 77
        · rw [if_pos (by omega), if_pos hc, rO_some (by omega), e]
        · have hn := okP_ne ok (by omega) (by omega)
          have hr := W (sN S) (by omega) (Nat.le_refl _)
          rw [if_neg (by omega), if_neg hc, rO_adn (by omega)]
      · rw [iz 9 (by decide) (by decide), sadd_lb, if_neg (by omega), hz 21 _ (by omega) (by decide) (by decide)]; rfl
      · rw [iz 11 (by decide) (by decide), show sy (sadd S l u s) (sN S + 1) = sy S (sN S + 1) from sadd_o (by decide) (by decide) (by decide) _, show sy S (sN S + 1) = 0 from hz 10 _ (by omega) (by decide) (by decide)]; rfl
      · rw [iz 12 (by decide) (by decide), show va (sadd S l u s) (sN S + 1) = va S (sN S + 1) from sadd_o (by decide) (by decide) (by decide) _, show va S (sN S + 1) = 0 from hz 11 _ (by omega) (by decide) (by decide)]; rfl
      · rw [iz 13 (by decide) (by decide)]; exact (V 0 (sN S + 1) (by decide) (by omega)).symm
      · rw [kz 15 (by decide) (by decide) (by decide) (by decide), show rn (sadd S l u s) (sN S + 1) = rn S (sN S + 1) from sadd_o (by decide) (by decide) (by decide) _, show rn S (sN S + 1) = 0 from hz 13 _ (by omega) (by decide) (by decide)]; rfl
      · rw [kz 16 (by decide) (by decide) (by decide) (by decide), show rm (sadd S l u s) (sN S + 1) = rm S (sN S + 1) from sadd_o (by decide) (by decide) (by decide) _, show rm S (sN S + 1) = 0 from hz 14 _ (by omega) (by decide) (by decide)]; rfl
      · rw [kz 17 (by decide) (by decide) (by decide) (by decide), show ot (sadd S l u s) (sN S + 1) = ot S (sN S + 1) from sadd_o (by decide) (by decide) (by decide) _, show ot S (sN S + 1) = 0 from hz 15 _ (by omega) (by decide) (by decide)]; rfl
      · rw [iz 18 (by decide) (by decide), show rd (sadd S l u s) (sN S + 1) = rd S (sN S + 1) from sadd_o (by decide) (by decide) (by decide) _, show rd S (sN S + 1) = 0 from hz 22 _ (by omega) (by decide) (by decide)]; rfl
      · rw [i19, show na (sadd S l u s) (sN S + 1) = na S (sN S + 1) from sadd_o (by decide) (by decide) (by decide) _, show na S (sN S + 1) = 0 from hz 16 _ (by omega) (by decide) (by decide)]; rfl
    · have ht : tb (sadd S l u s) (sN S + 1) = 0 := (sadd_o (by decide) (by decide) (by decide) _).trans (hz 6 _ (by omega) (by decide) (by decide))
      unfold RT
      rw [e]
      exact ⟨fun _ => kz 10 (by decide) (by decide) (by decide) (by decide), fun q => absurd ht q⟩
    · have ht : rg (sadd S l u s) (sN S + 1) = 0 := (sadd_o (by decide) (by decide) (by decide) _).trans (hz 12 _ (by omega) (by decide) (by decide))
      unfold RR
      rw [e]
      exact ⟨fun _ => kz 14 (by decide) (by decide) (by decide) (by decide), fun q => absurd ht q⟩
  · have hi3 : i ≤ sN S := by omega
    have e : adn ad (sN S + 1) (jz h) i = ad i := if_neg hi
    obtain ⟨o1, o2, o3⟩ := od i hi1 hi3
    obtain ⟨x1, x2, x3, x4, x5, x6, x7, x8, x9, x10, x11, x12, x13, x14, x15, x16, x17, x18, x19, x20, x21⟩ := (r7 i hi1 hi3).1
    have oth : ∀ c, jt h c ≠ 0 → jt h c ≠ 7 → jt h c ≠ 23 → jt h c ≠ 1 → Sm h h' c := fun c c0 c7 c23 c1 => sm c (fun q => c7 (by rw [q]; exact r1)) (fun q => c23 (by rw [q]; exact r3)) (fun j a b q => c1 (by rw [q]; exact (r7 j a b).1.2.1)) (by have := H c c0; omega)
    have o9 : ∀ k, k ≠ 9 → ji h' k (ad i) = ji h k (ad i) := fun k hk => by rw [o3, if_neg (fun q => hk q.1)]
    have hlv : lv (sadd S l u s) i = lv S i := by rw [sadd_lv, if_neg hi]
    have hus : us (sadd S l u s) i = us S i := by rw [sadd_us, if_neg hi]
    have hdg : dg (sadd S l u s) i = dg S i := by rw [sadd_dg, if_neg hi]
    have hrc : rc (sadd S l u s) i = rc S i := by rw [sadd_rc, if_neg hi]
    have kp : ∀ a, 5 < a → a ≠ 17 → a ≠ 21 → (sadd S l u s).1 a i = S.1 a i := fun a a1 a2 a3 => sadd_o a1 a2 a3 i
    have cp := R.cp i (by omega)
    have nm : nam S i < i := by unfold nam; split; exact R.pa i (by omega); omega
    have bnd := r6
    obtain ⟨-, -, -, -, -, -, -, -, -, -, -, f12, f13, f14, f15, -⟩ := bnd
    refine ⟨?_, ?_, ?_⟩
    · unfold RI
      rw [e, hlv, hus, hdg, sadd_cpa_old hi3, sadd_nam_old hi3, hrc, rO_adn (by omega), rO_adn (by omega), rO_adn (by have := f12 i; omega)]
      refine ⟨by rw [w3, if_neg hi]; exact x1, o1.trans x2, (o9 0 (by decide)).trans x3, (o9 1 (by decide)).trans x4, (o9 2 (by decide)).trans x5, (o9 3 (by decide)).trans x6, (o9 4 (by decide)).trans x7, (o2 5).trans x8, (o2 6).trans x9, (o2 7).trans x10, ?_, (o2 8).trans x12, ?_, ?_, ?_, ?_, ?_, ?_, ?_, ?_, ?_⟩
      · rw [(oth _ (by rw [x11]; decide) (by rw [x11]; decide) (by rw [x11]; decide) (by rw [x11]; decide)).1]; exact x11
      · rw [o3, sadd_lb]
        by_cases hc : i = aro S l ∧ l ≤ 49
        · rw [if_pos ⟨rfl, hc.1, hc.2⟩, if_pos ⟨hc.1, by omega, hc.2⟩]
        · rw [if_neg (fun q => hc ⟨q.2.1, q.2.2⟩), if_neg (fun q => hc ⟨q.1, q.2.2⟩)]; exact x13
      · rw [o9 11 (by decide), x14]; exact congrArg nI (kp 10 (by decide) (by decide) (by decide)).symm
      · rw [o9 12 (by decide), x15]; exact congrArg nI (kp 11 (by decide) (by decide) (by decide)).symm
      · rw [o9 13 (by decide)]; exact x16
      · rw [o2 15, x17, show rn (sadd S l u s) i = rn S i from kp 13 (by decide) (by decide) (by decide), rO_adn (by have := f14 i; omega)]
      · rw [o2 16, x18, show rm (sadd S l u s) i = rm S i from kp 14 (by decide) (by decide) (by decide), rO_adn (by have := f15 i; omega)]
      · rw [o2 17, x19, show ot (sadd S l u s) i = ot S i from kp 15 (by decide) (by decide) (by decide), rO_adn (by have := f13 i; omega)]
      · rw [o9 18 (by decide), x20]; exact congrArg nI (kp 22 (by decide) (by decide) (by decide)).symm
      · rw [o9 19 (by decide), x21]; exact congrArg (fun z => nI z - 1) (kp 16 (by decide) (by decide) (by decide)).symm
    · have hT := (r7 i hi1 hi3).2.1
      have ht : tb (sadd S l u s) i = tb S i := kp 6 (by decide) (by decide) (by decide)
      unfold RT
      rw [e, ht, o2 10, show le (sadd S l u s) i = le S i from kp 7 (by decide) (by decide) (by decide), show mo (sadd S l u s) i = mo S i from kp 8 (by decide) (by decide) (by decide), show nw (sadd S l u s) i = nw S i from kp 9 (by decide) (by decide) (by decide)]
      refine ⟨hT.1, fun q => ?_⟩
      obtain ⟨t, y1, y2, y3, y4, y5, y6⟩ := hT.2 q
      have so := oth t (by rw [y2]; decide) (by rw [y2]; decide) (by rw [y2]; decide) (by rw [y2]; decide)
      exact ⟨t, y1, so.1.trans y2, ((so.2.2.1 320).1).trans y3, ((so.2.2.1 321).1).trans y4, ((so.2.2.1 322).1).trans y5, ((so.2.2.1 323).1).trans y6⟩
    · have hT := (r7 i hi1 hi3).2.2
      have ht : rg (sadd S l u s) i = rg S i := kp 12 (by decide) (by decide) (by decide)
      unfold RR
      rw [e, ht, o2 14]
      refine ⟨hT.1, fun q => ?_⟩
      obtain ⟨r, y1, y2, y3, y4, y5, y6, y7, y8, y9, y10⟩ := hT.2 q
      have s0 := oth r (by rw [y2]; decide) (by rw [y2]; decide) (by rw [y2]; decide) (by rw [y2]; decide)
      have s1 := oth (r + 1) (by rw [y5]; decide) (by rw [y5]; decide) (by rw [y5]; decide) (by rw [y5]; decide)
      have s2 := oth (r + 2) (by rw [y6]; decide) (by rw [y6]; decide) (by rw [y6]; decide) (by rw [y6]; decide)
      exact ⟨r, y1, s0.1.trans y2, ((s0.2.2.1 128).2.2).trans y3, ((s0.2.2.1 129).2.2).trans y4, s1.1.trans y5, s2.1.trans y6, s1.2.1.trans y7, s2.2.1.trans y8, ((s0.2.2.1 130).1).trans y9, fun k hk => ⟨((s1.2.2.2 k).1).trans (y10 k hk).1, ((s2.2.2.2 k).1).trans (y10 k hk).2⟩⟩
end Add3
