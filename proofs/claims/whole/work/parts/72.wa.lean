/-! the invariant is kept -/
section Wa2
variable {S : sg}
theorem WA.f (W : WA S) : WF S := W.1
theorem WA.z (W : WA S) : WZ S := W.2.2.2.1
theorem WA_item {l u s : Int32} (W : WA S) (F' : WF (sitem S l u s).2) : WA (sitem S l u s).2 := by
  unfold sitem at F' ⊢
  by_cases c1 : okL l.toInt = false ∨ okU l.toInt u.toInt s.toInt = false
  · rw [if_pos c1] at F' ⊢; exact W
  · rw [if_neg c1] at F' ⊢
    by_cases c2 : okP S l.toInt = false
    · rw [if_pos c2] at F' ⊢; exact W
    · rw [if_neg c2] at F' ⊢
      by_cases c3 : sN S < 120
      · rw [if_pos c3] at F' ⊢
        obtain ⟨F, A, B, Z, V, L, K, Y⟩ := W
        have hL : okL l.toInt = true := by
          cases q : okL l.toInt with
          | true => rfl
          | false => exact absurd (Or.inl q) c1
        have hU : okU l.toInt u.toInt s.toInt = true := by
          cases q : okU l.toInt u.toInt s.toInt with
          | true => rfl
          | false => exact absurd (Or.inr q) c1
        have hP : okP S l.toInt = true := by
          cases q : okP S l.toInt with
          | true => rfl
          | false => exact absurd q c2
        have bl := of_decide_eq_true hL
        have bu := of_decide_eq_true hU
        have el : ((l.toInt.toNat : Nat) : Int) = l.toInt := by omega
        have eu : ((u.toInt.toNat : Nat) : Int) = u.toInt := by omega
        have es : ((s.toInt.toNat : Nat) : Int) = s.toInt := by omega
        generalize hl : l.toInt.toNat = l' at *
        generalize hu : u.toInt.toNat = u' at *
        generalize hs : s.toInt.toNat = s' at *
        have ar := aro_le A.wr (l' : Int)
        refine ⟨F', A.add Z F F' (by rw [el]; exact hL) (by rw [el, eu, es]; exact hU) (by rw [el]; exact hP), B.add Z F F', fun a i hi ha hb => ?_, fun k i hk hi => V k i hk (by rw [sadd_N] at hi; omega), WLD.no rfl, K, Y⟩
        rw [sadd_N] at hi
        by_cases e : a = 21
        · rw [e]
          have := sadd_lb (S := S) (l := l') (u := u') (s := s') i
          have e2 : (sadd S l' u' s').1 21 i = lb (sadd S l' u' s') i := rfl
          rw [e2, this, if_neg (by omega)]
          exact Z 21 i (by omega) (by decide) (by omega)
        · rw [sadd_keep (by omega) (by omega) e (fun _ => by omega)]
          exact Z a i (by omega) ha hb
      · rw [if_neg c3] at F' ⊢; exact W
/-- one number of an item is set -/
theorem WZ.set {a i v : Nat} (Z : WZ S) (hi : i ≤ sN S) (hN : sN (sset S a i v) = sN S) : WZ (sset S a i v) := by
  intro b j hj hb hc
  rw [hN] at hj
  show (if b = a ∧ j = i then v else if b = 17 then 0 else S.1 b j) = 0
  rw [if_neg (by omega), if_neg (by omega)]
  exact Z b j hj hb hc
theorem WA_ext {x y : Int32} (W : WA S) (F' : WF (sext S x y).2) : WA (sext S x y).2 := by
  unfold sext at F' ⊢
  by_cases c1 : fnd S x = 0
  · rw [if_pos c1]; exact W
  · rw [if_neg c1] at F' ⊢
    by_cases c2 : y.toInt < 0 ∨ 99 < y.toInt
    · rw [if_pos c2]; exact W
    · rw [if_neg c2] at F' ⊢
      by_cases c3 : ¬ lv S (fnd S x) = 1 ∨ ¬ na S (fnd S x) = 0 ∨ ¬ ot S (fnd S x) = 0 ∨ ¬ rd S (fnd S x) = 0
      · rw [if_pos c3]; exact W
      · rw [if_neg c3] at F' ⊢
        obtain ⟨F, A, B, Z, V, L, K, Y⟩ := W
        have hf := fnd_le S x F.1
        refine ⟨F', ?_, B.ext (by omega) hf (by omega) (by omega) (by omega), Z.set hf rfl, V, WLD.no rfl, K, Y⟩
        have eo : opn (sset S 16 (fnd S x) (y.toInt.toNat + 1)) = opn S := by
          funext i
          exact opn_eq (S := S) (S' := sset S 16 (fnd S x) (y.toInt.toNat + 1)) (n := i) (fun j _ _ => rfl) i (Nat.le_refl _)
        unfold WS1
        rw [eo]
        exact A
theorem WA_red {u v : Int32} (W : WA S) (F' : WF (sred S u v).2) : WA (sred S u v).2 := by
  unfold sred at F' ⊢
  by_cases c1 : fnd S u = 0 ∨ fnd S v = 0
  · rw [if_pos c1]; exact W
  · rw [if_neg c1] at F' ⊢
    by_cases c2 : okR S (fnd S u) (fnd S v) = false
    · rw [if_pos c2]; exact W
    · rw [if_neg c2] at F' ⊢
      obtain ⟨F, A, B, Z, V, L, K, Y⟩ := W
      have hu := fnd_le S u F.1
      have hv := fnd_le S v F.1
      have ok : okR S (fnd S u) (fnd S v) = true := by simpa using c2
      refine ⟨F', ?_, B.red F (by omega) hu (by omega) ok, (Z.set hu rfl).set (S := sset S 15 (fnd S u) (fnd S v)) hv rfl, V, WLD.no rfl, K, Y⟩
      have eo : opn (sset (sset S 15 (fnd S u) (fnd S v)) 22 (fnd S v) 1) = opn S := by
        funext i
        exact opn_eq (S := S) (S' := sset (sset S 15 (fnd S u) (fnd S v)) 22 (fnd S v) 1) (n := i) (fun j _ _ => rfl) i (Nat.le_refl _)
      unfold WS1
      rw [eo]
      exact A
theorem eqv_nw {i v : Nat} : eqv S (snw S i v) := by
  refine ⟨fun a h9 h17 _ => ?_, fun _ _ => rfl⟩
  funext j
  show (if a = 9 ∧ j = i then v else S.1 a j) = _
  rw [if_neg (fun z => h9 z.1)]
theorem WA_dep {u v : Int32} (W : WA S) (F' : WF (sdep S u v).2) : WA (sdep S u v).2 := by
  unfold sdep at F' ⊢
  by_cases c1 : fnd S u = 0
  · rw [if_pos c1]; exact W
  · rw [if_neg c1] at F' ⊢
    by_cases c2 : ¬ tb S (fnd S u) = 2
    · rw [if_pos c2]; exact W
    · rw [if_neg c2] at F' ⊢
      by_cases c3 : v.toInt < le S (fnd S u) ∨ (mo S (fnd S u) : Int) < v.toInt
      · rw [if_pos c3]; exact W
      · rw [if_neg c3] at F' ⊢
        obtain ⟨F, A, B, Z, V, L, K, Y⟩ := W
        have hu := fnd_le S u F.1
        have e := eqv_nw (S := S) (i := fnd S u) (v := v.toInt.toNat)
        refine ⟨F', e.w1 A, e.w2 B, fun a j hj ha hb => ?_, V, e.wld L rfl (fun a h1 h2 => ?_), K, Y⟩
        · have hj' : sN S < j := hj
          show (if a = 9 ∧ j = fnd S u then _ else S.1 a j) = 0
          rw [if_neg (by omega)]
          exact Z a j hj' ha hb
        · funext j
          show (if a = 9 ∧ j = fnd S u then _ else S.1 a j) = _
          rw [if_neg (by omega)]
theorem WA_chk {v : Bool} (W : WA S) : WA (schk S v).2 := by
  obtain ⟨F, A, B, Z, V, L, K, Y⟩ := W
  have e : eqv S (slk S (if v then 1 else 0)) := by
    refine ⟨fun a h9 h17 _ => ?_, fun _ _ => rfl⟩
    funext j
    show (if a = 18 ∧ j = 0 then _ else S.1 a j) = _
    rw [if_neg (by omega)]
  refine ⟨F, e.w1 A, e.w2 B, fun a j hj ha hb => ?_, V, e.wld L rfl (fun a h1 h2 => ?_), ?_, Y⟩
  · have hj' : sN S < j := hj
    show (if a = 18 ∧ j = 0 then _ else S.1 a j) = 0
    rw [if_neg (by omega)]
    exact Z a j hj' ha hb
  · funext j
    show (if a = 18 ∧ j = 0 then _ else S.1 a j) = _
    rw [if_neg (by omega)]
  · show (if 18 = 18 ∧ 0 = 0 then (if v then 1 else 0) else S.1 18 0) ≤ 1
    rw [if_pos ⟨rfl, rfl⟩]
    split <;> omega
theorem WA_lkd {v : Nat} (W : WA S) : WA (slkd S v) := by
  obtain ⟨F, A, B, Z, V, L, K, Y⟩ := W
  have e : eqv S (slkd S v) := by
    refine ⟨fun a h9 h17 _ => ?_, fun _ _ => rfl⟩
    funext j
    show (if a = 19 ∧ j = 0 then _ else S.1 a j) = _
    rw [if_neg (by omega)]
  refine ⟨F, e.w1 A, e.w2 B, fun a j hj ha hb => ?_, V, e.wld L rfl (fun a h1 h2 => ?_), K, Y⟩
  · have hj' : sN S < j := hj
    show (if a = 19 ∧ j = 0 then _ else S.1 a j) = 0
    rw [if_neg (by omega)]
    exact Z a j hj' ha hb
  · funext j
    show (if a = 19 ∧ j = 0 then _ else S.1 a j) = _
    rw [if_neg (by omega)]
theorem WA_sub {u a b c : Int32} (W : WA S) : WA (ssub S u a b c).2 := by
  unfold ssub
  split
  · exact W
  · split
    · exact WA_lkd W
    · split
      · exact WA_lkd W
      · exact WA_lkd W
theorem WA_oct {u v : Int32} (W : WA S) : WA (soct S u v).2 := by
  unfold soct
  split
  · exact W
  · split
    · exact W
    · split
      · exact W
      · obtain ⟨F, A, B, Z, V, L, K, Y⟩ := W
        have e : eqv S (sput S u.toInt.toNat (b8 v)) := by
          refine ⟨fun a h9 h17 _ => rfl, fun k hk => ?_⟩
          funext j
          show (if k = 30 ∧ j = _ then _ else S.2 k j) = _
          rw [if_neg (by omega)]
        refine ⟨F, e.w1 A, e.w2 B, Z, fun k i hk hi => ?_, e.wld L rfl (fun a h1 h2 => rfl), K, fun k => ?_⟩
        · show (if k = 30 ∧ i = _ then _ else S.2 k i) = 0
          rw [if_neg (by omega)]
          exact V k i hk hi
        · show b8 (if 30 = 30 ∧ k = _ then b8 v else S.2 30 k) = if 30 = 30 ∧ k = _ then b8 v else S.2 30 k
          split
          · exact b8_b8 v
          · exact Y k
theorem rps_b8 {F : lm} : ∀ t A, (∀ k, b8 (A k) = A k) → ∀ k, b8 (rps S F t A k) = rps S F t A k := by
  intro t
  induction t with
  | zero => intro A h; exact h
  | succ t ih =>
    intro A h
    refine ih _ (fun k => ?_)
    unfold rpt1
    split
    · unfold rep
      split
      · exact h _
      · exact h _
    · exact h k
theorem eqv_laid : eqv S (slaid S) := by
  refine ⟨fun a h9 h17 h22 => ?_, fun k hk => ?_⟩
  · funext j
    show (if a = 17 then 1 else if a = 23 then _ else if a = 24 then _ else if a = 25 then _ else if a = 26 then _ else if a = 27 then _ else if a = 28 then _ else S.1 a j) = _
    rw [if_neg (by omega), if_neg (by omega), if_neg (by omega), if_neg (by omega), if_neg (by omega), if_neg (by omega), if_neg (by omega)]
  · funext j
    show (if k = 30 then _ else S.2 k j) = _
    rw [if_neg (by omega)]
theorem bv_laid (k : Nat) : bv (slaid S) k = byA S (sF S) (ibt S) k := by
  unfold bv slaid
  simp only [if_true]
theorem tot_laid : tot (slaid S) = sF S 4 0 := rfl
theorem at_laid (i : Nat) : pl (slaid S) i = (if rn S i = 0 then sF S 0 i else sF S 0 (rn S i)) ∧ ln (slaid S) i = (if rn S i = 0 then sF S 1 i - sF S 0 i else sF S 1 (rm S i) - sF S 0 (rn S i)) ∧ sd (slaid S) i = sF S 2 i ∧ sk (slaid S) i = sF S 3 i ∧ mv (slaid S) i = mvf S i := by
  exact ⟨rfl, rfl, rfl, rfl, rfl⟩
theorem WA_un (W : WA S) : WA (sun S) := by
  obtain ⟨F, A, B, Z, V, L, K, Y⟩ := W
  have e : eqv S (sun S) := by
    refine ⟨fun a h9 h17 _ => ?_, fun _ _ => rfl⟩
    funext j
    show (if a = 17 then 0 else S.1 a j) = _
    rw [if_neg (by omega)]
  refine ⟨F, e.w1 A, e.w2 B, fun a j hj ha hb => ?_, V, WLD.no rfl, K, Y⟩
  have hj' : sN S < j := hj
  show (if a = 17 then 0 else S.1 a j) = 0
  rw [if_neg (by omega)]
  exact Z a j hj' ha hb
theorem WA_lay (W : WA S) : WA (slay S).2 := by
  unfold slay
  by_cases c1 : fwr S (gU S) true = 0
  · rw [if_neg (fun q => q c1)]
    by_cases c2 : 20000 < sF S 4 0
    · rw [if_pos c2]; exact WA_un W
    · rw [if_neg c2]
      obtain ⟨F, A, B, Z, V, L, K, Y⟩ := W
      have e := eqv_laid (S := S)
      refine ⟨F, e.w1 A, e.w2 B, fun a j hj ha hb => ?_, fun k i hk hi => ?_, ⟨Nat.le_refl _, fun _ => ⟨e.efwr.trans c1, by rw [e.esF]; omega, by rw [e.esF, tot_laid], fun i => ?_⟩⟩, K, fun k => ?_⟩
      · have hj' : sN S < j := hj
        show (if a = 17 then 1 else if a = 23 then _ else if a = 24 then _ else if a = 25 then _ else if a = 26 then _ else if a = 27 then _ else if a = 28 then _ else S.1 a j) = 0
        rw [if_neg (by omega), if_neg (by omega), if_neg (by omega), if_neg (by omega), if_neg (by omega), if_neg (by omega), if_neg (by omega)]
        exact Z a j hj' ha hb
      · have hi' : sN S < i := hi
        have := congrFun (e.2 k hk) i
        rw [this]; exact V k i hk hi'
      · rw [e.esF, e.emvf, e.ern, e.erm]
        exact at_laid i
      · rw [bv_laid]
        exact rps_b8 _ _ (fst1_b8 _) k
  · rw [if_pos c1]; exact WA_un W
theorem opn_set {a i v : Nat} (h : ¬ a = 1) : opn (sset S a i v) = opn S := by
  funext j
  refine opn_eq (S := S) (S' := sset S a i v) (n := j) (fun k _ _ => ?_) j (Nat.le_refl _)
  have e : lv (sset S a i v) k = lv S k := by
    show (if 1 = a ∧ k = i then v else if 1 = 17 then 0 else S.1 1 k) = _
    rw [if_neg (by omega), if_neg (by omega)]; rfl
  unfold lies
  rw [e]
theorem WA_tab {i t a m : Nat} {d : Bool} (W : WA S) (F' : WF (stab S i t a m)) (h1 : 1 ≤ i) (h2 : i ≤ sN S) (ht : t = 1 ∨ t = 2) (hd : t = 2 → d = true) (hm : 1 ≤ m) (ok : okT S i d = true) : WA (stab S i t a m) := by
  obtain ⟨F, A, B, Z, V, L, K, Y⟩ := W
  refine ⟨F', ?_, B.k1 F Z h1 h2 ht hd hm ok, fun c j hj h1 h2 => ?_, V, WLD.no rfl, K, Y⟩
  · have eo : opn (stab S i t a m) = opn S := by
      funext j
      exact opn_eq (S := S) (S' := stab S i t a m) (n := j) (fun k _ _ => rfl) j (Nat.le_refl _)
    unfold WS1
    rw [eo]
    exact A
  · have hj' : sN S < j := hj
    show (if c = 6 ∧ j = i then _ else if c = 7 ∧ j = i then _ else if c = 8 ∧ j = i then _ else if c = 9 ∧ j = i then _ else if c = 17 then 0 else S.1 c j) = 0
    rw [if_neg (by omega), if_neg (by omega), if_neg (by omega), if_neg (by omega), if_neg (by omega)]
    exact Z c j hj' h1 h2
theorem WA_syn {i : Nat} (W : WA S) (F' : WF (sset S 10 i 1)) (h2 : i ≤ sN S) (ok : 8 ≤ us S i ∧ us S i ≤ 11) : WA (sset S 10 i 1) := by
  obtain ⟨F, A, B, Z, V, L, K, Y⟩ := W
  refine ⟨F', ?_, B.k2 ok, Z.set h2 rfl, V, WLD.no rfl, K, Y⟩
  unfold WS1
  rw [opn_set (by decide)]
  exact A
theorem WA_val {i : Nat} {a : Int32} (W : WA S) (F' : WF (svl (sset S 11 i 1) i a)) (h1 : 1 ≤ i) (h2 : i ≤ sN S) (hu : 3 ≤ us S i ∧ us S i ≤ 8) (ha : aside S i = false) (hr : room (dg S i) a.toInt = true) : WA (svl (sset S 11 i 1) i a) := by
  obtain ⟨F, A, B, Z, V, L, K, Y⟩ := W
  refine ⟨F', ?_, B.k3 h1 h2 hu ha hr, fun c j hj h1 hc => Z.set (a := 11) (v := 1) h2 rfl c j hj h1 hc, fun m j hm hj => ?_, WLD.no rfl, K, fun m => ?_⟩
  · have eo : opn (svl (sset S 11 i 1) i a) = opn S := by
      funext j
      exact opn_eq (S := S) (S' := svl (sset S 11 i 1) i a) (n := j) (fun k _ _ => rfl) j (Nat.le_refl _)
    unfold WS1
    rw [eo]
    exact A
  · have hj' : sN S < j := hj
    show (if m = 0 ∧ j = i then a else S.2 m j) = 0
    rw [if_neg (by omega)]
    exact V m j hm hj'
  · have e : bv (svl (sset S 11 i 1) i a) m = bv S m := by
      show (if 30 = 0 ∧ m = i then a else S.2 30 m) = _
      rw [if_neg (by omega)]; rfl
    rw [e]; exact Y m
theorem WA_rng {i : Nat} {a b : Int32} (W : WA S) (F' : WF (srg S i a b)) (h2 : i ≤ sN S) (ok : lv S i = 88 ∧ rg S i < 8) : WA (srg S i a b) := by
  obtain ⟨F, A, B, Z, V, L, K, Y⟩ := W
  refine ⟨F', ?_, B.k4 ok.1, fun c j hj h1 h2 => ?_, fun m j hm hj => ?_, WLD.no rfl, K, fun m => ?_⟩
  · have eo : opn (srg S i a b) = opn S := by
      funext j
      exact opn_eq (S := S) (S' := srg S i a b) (n := j) (fun k _ _ => rfl) j (Nat.le_refl _)
    unfold WS1
    rw [eo]
    exact A
  · have hj' : sN S < j := hj
    show (if c = 12 ∧ j = i then _ else if c = 17 then 0 else S.1 c j) = 0
    rw [if_neg (by omega), if_neg (by omega)]
    exact Z c j hj' h1 h2
  · have hj' : sN S < j := hj
    show (if m = 1 + rg S i ∧ j = i then a else if m = 11 + rg S i ∧ j = i then b else S.2 m j) = 0
    rw [if_neg (by omega), if_neg (by omega)]
    exact V m j hm hj'
  · have e : bv (srg S i a b) m = bv S m := by
      show (if 30 = 1 + rg S i ∧ m = i then a else if 30 = 11 + rg S i ∧ m = i then b else S.2 30 m) = _
      rw [if_neg (by omega), if_neg (by omega)]; rfl
    rw [e]; exact Y m
theorem WA_prt {i a b : Nat} (W : WA S) (F' : WF (sset (sset S 13 i a) 14 i b)) (h1 : 1 ≤ i) (h2 : i ≤ sN S) (ha : 1 ≤ a) (hb : b ≤ sN S) (ok : okPt S i a b = true) : WA (sset (sset S 13 i a) 14 i b) := by
  obtain ⟨F, A, B, Z, V, L, K, Y⟩ := W
  refine ⟨F', ?_, B.k5 h1 h2 ha hb ok, (Z.set h2 rfl).set (S := sset S 13 i a) h2 rfl, V, WLD.no rfl, K, Y⟩
  have eo : opn (sset (sset S 13 i a) 14 i b) = opn S := by
    rw [opn_set (by decide), opn_set (by decide)]
  unfold WS1
  rw [eo]
  exact A
theorem WA_tell {i : Nat} {k a b : Int32} {S' : sg} (W : WA S) (F' : WF S') (hu1 : 1 ≤ i) (hu : i ≤ sN S) (okc : okC k.toInt a.toInt b.toInt = true) (h5 : k = 5 → ¬ fnd S a = 0) (hs : stell S i k a b = some S') : WA S' := by
  have hb := fnd_le S b W.1.1
  have okc := of_decide_eq_true okc
  unfold stell at hs
  by_cases k0 : k = 0
  · rw [if_pos k0] at hs
    by_cases ok : okT S i false = true
    · rw [if_pos ok] at hs
      have e := Option.some.inj hs
      rw [← e] at F' ⊢
      have kz : k.toInt = 0 := by rw [k0]; rfl
      exact WA_tab W F' hu1 hu (Or.inl rfl) (fun q => by cases q) (by omega) ok
    · rw [if_neg ok] at hs; cases hs
  rw [if_neg k0] at hs
  by_cases k1 : k = 1
  · rw [if_pos k1] at hs
    by_cases ok : okT S i true = true
    · rw [if_pos ok] at hs
      have e := Option.some.inj hs
      rw [← e] at F' ⊢
      have kz : k.toInt = 1 := by rw [k1]; rfl
      exact WA_tab W F' hu1 hu (Or.inr rfl) (fun _ => rfl) (by omega) ok
    · rw [if_neg ok] at hs; cases hs
  rw [if_neg k1] at hs
  by_cases k2 : k = 2
  · rw [if_pos k2] at hs
    by_cases ok : 8 ≤ us S i ∧ us S i ≤ 11 ∧ sy S i = 0
    · rw [if_pos ok] at hs
      have e := Option.some.inj hs
      rw [← e] at F' ⊢
      exact WA_syn W F' hu ⟨ok.1, ok.2.1⟩
    · rw [if_neg ok] at hs; cases hs
  rw [if_neg k2] at hs
  by_cases k3 : k = 3
  · rw [if_pos k3] at hs
    by_cases ok : okN (us S i) = true ∧ va S i = 0 ∧ aside S i = false ∧ room (dg S i) a.toInt = true
    · rw [if_pos ok] at hs
      have e := Option.some.inj hs
      rw [← e] at F' ⊢
      have on := of_decide_eq_true ok.1
      exact WA_val W F' hu1 hu (by omega) ok.2.2.1 ok.2.2.2
    · rw [if_neg ok] at hs; cases hs
  rw [if_neg k3] at hs
  by_cases k4 : k = 4
  · rw [if_pos k4] at hs
    by_cases ok : lv S i = 88 ∧ rg S i < 8
    · rw [if_pos ok] at hs
      have e := Option.some.inj hs
      rw [← e] at F' ⊢
      exact WA_rng W F' hu ok
    · rw [if_neg ok] at hs; cases hs
  rw [if_neg k4] at hs
  by_cases ok : okPt S i (fnd S a) (fnd S b) = true
  · rw [if_pos ok] at hs
    have e := Option.some.inj hs
    rw [← e] at F' ⊢
    have k5 : k = 5 := by
      have e0 : k = 0 ↔ k.toInt = 0 := by rw [← Int32.toInt_inj]; rfl
      have e1 : k = 1 ↔ k.toInt = 1 := by rw [← Int32.toInt_inj]; rfl
      have e2 : k = 2 ↔ k.toInt = 2 := by rw [← Int32.toInt_inj]; rfl
      have e3 : k = 3 ↔ k.toInt = 3 := by rw [← Int32.toInt_inj]; rfl
      have e4 : k = 4 ↔ k.toInt = 4 := by rw [← Int32.toInt_inj]; rfl
      have e5 : k = 5 ↔ k.toInt = 5 := by rw [← Int32.toInt_inj]; rfl
      rw [e0] at k0
      rw [e1] at k1
      rw [e2] at k2
      rw [e3] at k3
      rw [e4] at k4
      exact e5.mpr (by omega)
    have := h5 k5
    exact WA_prt W F' hu1 hu (by omega) hb ok
  · rw [if_neg ok] at hs; cases hs
theorem WA_cla {u k a b : Int32} (W : WA S) (F' : WF (scla S u k a b).2) : WA (scla S u k a b).2 := by
  have e : scla S u k a b = if fnd S u = 0 ∨ (k = 5 ∧ (fnd S a = 0 ∨ fnd S b = 0)) then ((-2 : Int32), S) else if okC k.toInt a.toInt b.toInt = false then ((-4 : Int32), S) else match stell S (fnd S u) k a b with
    | none => ((0 : Int32), S)
    | some S' => ((1 : Int32), S') := rfl
  by_cases c1 : fnd S u = 0 ∨ (k = 5 ∧ (fnd S a = 0 ∨ fnd S b = 0))
  · rw [if_pos c1] at e; rw [e]; exact W
  · rw [if_neg c1] at e
    by_cases c2 : okC k.toInt a.toInt b.toInt = false
    · rw [if_pos c2] at e; rw [e]; exact W
    · rw [if_neg c2] at e
      have hu := fnd_le S u W.1.1
      have okc : okC k.toInt a.toInt b.toInt = true := by simpa using c2
      cases hs : stell S (fnd S u) k a b with
      | none => rw [hs] at e; rw [e]; exact W
      | some S' =>
        rw [hs] at e
        rw [e] at F' ⊢
        exact WA_tell W F' (by omega) hu okc (fun q q2 => c1 (Or.inr ⟨q, Or.inl q2⟩)) hs
end Wa2
