/-! the reference writes every entry of an item -/
section ModK0
variable {S : sg} {U : Nat → Nat} {F : lm}
theorem root_of (hp : ∀ i, 0 < i → cpa S i < i) : ∀ i, 1 ≤ i → ∃ q, 1 ≤ q ∧ onc S i q = true ∧ cpa S q = 0 := by
  intro i
  induction i using Nat.strongRecOn with
  | _ i ih =>
    intro h1
    by_cases q : cpa S i = 0
    · exact ⟨i, h1, onc_self hp h1, q⟩
    · obtain ⟨r, r1, r2, r3⟩ := ih _ (hp i h1) (by omega)
      exact ⟨r, r1, onc_up hp h1 r2, r3⟩
theorem off_root (hp : ∀ i, 0 < i → cpa S i < i) {f : Nat → Nat} {q : Nat} (h1 : 1 ≤ q) (h3 : cpa S q = 0) : ∀ i, onc S i q = true → off S F f 1 i = off S F f q i := by
  intro i
  induction i using Nat.strongRecOn with
  | _ i ih =>
    intro ho
    have l := onc_le hp _ _ ho
    rw [off_step (lo := 1) (i := i) hp (by omega) (by omega), off_step (lo := q) (i := i) hp (by omega) (by omega)]
    rcases onc_or hp ho with e | e
    · rw [← e, h3, off_lo (i := 0) (Or.inl rfl), off_lo (i := 0) (Or.inl rfl)]
    · rw [ih _ (hp i (by omega)) e]
/-- every entry lies within all bytes -/
theorem off_all (W : WB S U) (ok : fwr S U true = 0) {f : Nat → Nat} {i : Nat} (i1 : 1 ≤ i) (i2 : i ≤ sN S) (hl : lies S i = true) (hf : ∀ t, onc S i t = true → ¬ tb S t = 0 → f t < mo S t) : mfin S U true 0 i + off S (mfin S U true) f 1 i + (mfin S U true 1 i - mfin S U true 0 i) ≤ mfin S U true 4 0 := by
  obtain ⟨q, q1, q2, q3⟩ := root_of W.p i i1
  have lq := onc_le W.p _ _ q2
  have a := off_in W ok i q i2 hl q2 hf
  have b := g_all W ok q q1 (by omega) (lies_onc W i q i2 hl q2)
  rw [off_root W.p q1 q3 i q2]
  omega
end ModK0
section ModK
variable {g : jg} {h h' h1 : jh} {S : sg} {m : Nat} {Q : jq}
theorem tki_ok (W : WA S) {i k : Nat} (i2 : i ≤ sN S) (hk : k < tabs S i) : 1 ≤ tki S i k ∧ tki S i k ≤ sN S ∧ ¬ tb S (tki S i k) = 0 := by
  have o := tout_ok W.wb.p i (tabs S i - 1 - k) (by omega)
  exact ⟨o.1, by have := o.2.1; unfold tki; omega, o.2.2.1⟩
theorem a_str (R : RS h S m) (W : WA S) {i k : Nat} (i2 : i ≤ sN S) (hk : k < tabs S i) (e27 : ∀ k, k < tabs S i → jI h (m + 27) k = nI (tki S i k)) (hst : ∀ t, 1 ≤ t → t ≤ sN S → ¬ tb S t = 0 → jL h (m + 23) t = nL (sF S 2 t)) {P : Int64 → Prop} (hP : P (nL (spk S (sF S) i k))) : (¬ (jr h 545 m) = none) ∧ (jt h (jd (jr h 545 m)) = 20) ∧ (vp_in (nI k) (jn h (jd (jr h 545 m)))) ∧ (¬ (jr h 541 m) = none) ∧ (jt h (jd (jr h 541 m)) = 22) ∧ (vp_in (jI h (jd (jr h 545 m)) (nI k : Int32).toNatClampNeg) (jn h (jd (jr h 541 m)))) ∧ P (jL h (jd (jr h 541 m)) (jI h (jd (jr h 545 m)) (nI k : Int32).toNatClampNeg : Int32).toNatClampNeg) := by
  have hN := W.n
  have h3 := W.wb.tab i
  obtain ⟨k1, k2, k3⟩ := R.k27
  obtain ⟨l1, l2, l3⟩ := R.k23
  obtain ⟨t1, t2, t3⟩ := tki_ok W i2 hk
  rw [k1, jd_s, k3, l1, jd_s, l3, nI_clamp (n := k) (by omega), e27 k hk, nI_clamp (n := tki S i k) (by omega), hst _ t1 t2 t3]
  refine ⟨jsn, k2, vp_in_nI (by omega) (by decide), jsn, l2, vp_in_nI (by omega) (by decide), ?_⟩
  unfold spk at hP
  rw [if_pos hk] at hP
  exact hP
theorem a_mo (R : RS h S m) (W : WA S) {i k : Nat} (i2 : i ≤ sN S) (hk : k < tabs S i) (e27 : ∀ k, k < tabs S i → jI h (m + 27) k = nI (tki S i k)) {P : Int32 → Prop} (hP : P (nI (lim S i k))) : (¬ (jr h 545 m) = none) ∧ (jt h (jd (jr h 545 m)) = 20) ∧ (vp_in (nI k) (jn h (jd (jr h 545 m)))) ∧ (¬ (jr h 521 m) = none) ∧ (jt h (jd (jr h 521 m)) = 20) ∧ (vp_in (jI h (jd (jr h 545 m)) (nI k : Int32).toNatClampNeg) (jn h (jd (jr h 521 m)))) ∧ P (jI h (jd (jr h 521 m)) (jI h (jd (jr h 545 m)) (nI k : Int32).toNatClampNeg : Int32).toNatClampNeg) := by
  have hN := W.n
  have h3 := W.wb.tab i
  obtain ⟨k1, k2, k3⟩ := R.k27
  obtain ⟨t1, t2, t3⟩ := tki_ok W i2 hk
  obtain ⟨l1, l2, l3, l4⟩ := R.amo (i := tki S i k) t1 (by omega)
  rw [k1, jd_s, k3, nI_clamp (n := k) (by omega), e27 k hk, l4]
  refine ⟨jsn, k2, vp_in_nI (by omega) (by decide), l1, l2, l3, ?_⟩
  unfold lim at hP
  rw [if_pos hk] at hP
  exact hP
theorem s_fillAll (R : RS h S m) (W : WA S) (ok : fwr S (gU S) true = 0) (hT : sF S 4 0 ≤ 20000) {i : Nat} (i1 : 1 ≤ i) (i2 : i ≤ sN S) (ho : own S i = true) (hpl : jL h (m + 21) i = nL (sF S 0 i)) (hln : jL h (m + 22) i = nL (byi S i)) (hst : ∀ t, 1 ≤ t → t ≤ sN S → ¬ tb S t = 0 → jL h (m + 23) t = nL (sF S 2 t)) (hG : bGD (byA S (sF S) (ibt S)) (jI h (m + 20)))
    (hQ : ∀ h', FF m h h' → bGD (byA S (sF S) (ibt S)) (jI h' (m + 20)) → bLE (byA S (sF S) (ibt S)) (jI h (m + 20)) (jI h' (m + 20)) → (∀ f : Nat → Nat, (∀ t, onc S i t = true → ¬ tb S t = 0 → f t < mo S t) → ∀ o, o < byi S i → jI h' (m + 20) (sF S 0 i + off S (sF S) f 1 i + o) = byA S (sF S) (ibt S) (sF S 0 i + off S (sF S) f 1 i + o)) → Q (.inl none) h') : jM g mX10_fillAll [.inr (.inr (some m)), .inl (nI i)] h 0 0 Q := by
  have hN := W.n
  have hp := W.wb.p
  have h3 := W.wb.tab i
  obtain ⟨li, oi, ui⟩ := own_l ho
  obtain ⟨pr1, -⟩ := PR.al (ib := ibt S) W.wb ok
  obtain ⟨T, eT⟩ : ∃ T, T = byA S (sF S) (ibt S) := ⟨_, rfl⟩
  rw [← eT] at hG hQ
  have pr : ∀ f : Nat → Nat, (∀ t, onc S i t = true → ¬ tb S t = 0 → f t < mo S t) → ∀ o, o < byi S i → T (sF S 0 i + off S (sF S) f 1 i + o) = ibt S i o := fun f hf o hoo => by rw [eT]; exact pr1 i f o i1 i2 ho hf hoo
  clear pr1
  have inr : ∀ f : Nat → Nat, (∀ t, onc S i t = true → ¬ tb S t = 0 → f t < mo S t) → sF S 0 i + off S (sF S) f 1 i + byi S i ≤ 20000 := by
    intro f hf
    have a := off_all W.wb ok i1 i2 li hf
    have b := len_xtn W.wb i1 i2 li
    have hT' : mfin S (gU S) true 4 0 ≤ 20000 := hT
    show mfin S (gU S) true 0 i + off S (mfin S (gU S) true) f 1 i + byi S i ≤ 20000
    omega
  have lm1 : ∀ k, lim S i k ≤ 999 := by
    intro k
    unfold lim
    split
    · exact W.1.2.2.2.2.2.2.1 _
    · decide
  refine eX10_fillAll ⟨R.t, s_findAround R W i2 (Or.inr li) (fun h0 F0 e20 e46 e27 => ?_)⟩
  rw [jkv_i]
  have gg : ∀ h1, FF m h h1 → jL h1 = jL h := fun h1 F1 => F1.2.2.2.2.2.2.1
  -- what holds between
  let ST : jh → Prop := fun h1 => FF m h h1 ∧ ji h1 546 m = nI (tabs S i) ∧ (∀ k, k < tabs S i → jI h1 (m + 27) k = nI (tki S i k)) ∧ bGD T (jI h1 (m + 20)) ∧ bLE T (jI h (m + 20)) (jI h1 (m + 20))
  let CV : jh → Nat → Nat → Nat → Prop := fun h1 x y z => ∀ x' y' z', x' < lim S i 0 → y' < lim S i 1 → z' < lim S i 2 → (x' < x ∨ x' = x ∧ (y' < y ∨ y' = y ∧ z' < z)) → ∀ o, o < byi S i → jI h1 (m + 20) (sF S 0 i + (x' * spk S (sF S) i 0 + y' * spk S (sF S) i 1 + z' * spk S (sF S) i 2) + o) = T (sF S 0 i + (x' * spk S (sF S) i 0 + y' * spk S (sF S) i 1 + z' * spk S (sF S) i 2) + o)
  have l80 : ∀ r x (h1 : jh), x + r = lim S i 0 → ST h1 → CV h1 x 0 0 → jG g mX10_fillAll 80 [(0, .inr (.inr (some m))), (1, .inl (nI i)), (2, .inl (nI (lim S i 0))), (3, .inl (nI (lim S i 1))), (4, .inl (nI (lim S i 2))), (5, .inl (nI x))] [] h1 0 0 Q := by
    intro r
    induction r with
    | zero =>
      intro x h1 hx s1 c1
      have : x = lim S i 0 := by omega
      subst this
      refine vX10_fillAll_80 ⟨fun _ => hQ h1 s1.1 s1.2.2.2.1 s1.2.2.2.2 (fun f hf o hoo => ?_), fun c => absurd (Int32.le_refl _) c⟩
      obtain ⟨x, y, z, x1, y1, z1, e⟩ := ent_b (F := sF S) hp h3 hf
      rw [e]
      exact c1 x y z x1 y1 z1 (Or.inl x1) o hoo
    | succ r ihx =>
      intro x h1 hx s1 c1
      have := lm1 0
      refine vX10_fillAll_80 ⟨fun c => absurd c (by rw [nI_leI (by omega) (by omega)]; omega), fun _ => ?_⟩
      have l89 : ∀ r y (h1 : jh), y + r = lim S i 1 → ST h1 → CV h1 x y 0 → jG g mX10_fillAll 89 [(0, .inr (.inr (some m))), (1, .inl (nI i)), (2, .inl (nI (lim S i 0))), (3, .inl (nI (lim S i 1))), (4, .inl (nI (lim S i 2))), (5, .inl (nI x)), (6, .inl (nI y))] [] h1 0 0 Q := by
        intro r
        induction r with
        | zero =>
          intro y h1 hy s1 c1
          have : y = lim S i 1 := by omega
          subst this
          refine vX10_fillAll_89 ⟨fun _ => ?_, fun c => absurd (Int32.le_refl _) c⟩
          rw [nI_1]
          exact ihx (x + 1) h1 (by omega) s1 (fun x' y' z' x1 y1 z1 w o hoo => c1 x' y' z' x1 y1 z1 (by omega) o hoo)
        | succ r ihy =>
          intro y h1 hy s1 c1
          have := lm1 1
          refine vX10_fillAll_89 ⟨fun c => absurd c (by rw [nI_leI (by omega) (by omega)]; omega), fun _ => ?_⟩
          have l98 : ∀ r z (h1 : jh), z + r = lim S i 2 → ST h1 → CV h1 x y z → jG g mX10_fillAll 98 [(0, .inr (.inr (some m))), (1, .inl (nI i)), (2, .inl (nI (lim S i 0))), (3, .inl (nI (lim S i 1))), (4, .inl (nI (lim S i 2))), (5, .inl (nI x)), (6, .inl (nI y)), (7, .inl (nI z))] [] h1 0 0 Q := by
            intro r
            induction r with
            | zero =>
              intro z h1 hz s1 c1
              have : z = lim S i 2 := by omega
              subst this
              refine vX10_fillAll_98 ⟨fun _ => ?_, fun c => absurd (Int32.le_refl _) c⟩
              rw [nI_1]
              exact ihy (y + 1) h1 (by omega) s1 (fun x' y' z' x1 y1 z1 w o hoo => c1 x' y' z' x1 y1 z1 (by omega) o hoo)
            | succ r ihz =>
              intro z h1 hz s1 c1
              have := lm1 2
              obtain ⟨F1, f46, f27, fG, fL⟩ := s1
              have R1 := R.ff F1
              have gL := gg h1 F1
              have hst1 : ∀ t, 1 ≤ t → t ≤ sN S → ¬ tb S t = 0 → jL h1 (m + 23) t = nL (sF S 2 t) := by rw [gL]; exact hst
              obtain ⟨f, hf, ef⟩ := ent_f (F := sF S) hp h3 (x := x) (y := y) (z := z) (by omega) (by omega) (by omega)
              have pf := pr f hf
              have nf := inr f hf
              rw [ef] at pf nf
              have q193 : ∀ v w : Int64, v + w = nL (sF S 0 i + (x * spk S (sF S) i 0 + y * spk S (sF S) i 1 + z * spk S (sF S) i 2)) → VX10_fillAll_193 g m (nI i) (nI (lim S i 0)) (nI (lim S i 1)) (nI (lim S i 2)) (nI x) (nI y) (nI z) v w h1 0 0 Q := by
                intro v w e
                refine ⟨R1.t, ?_⟩
                rw [e, toInt32_nL]
                refine s_fill R1 W i1 i2 ui (by rw [gL]; exact hln) nf (fun h2 F2 e2 => ?_)
                rw [jkv_i, nI_1]
                obtain ⟨u1, u2, u3⟩ := wri_ok (S := S) (i := i) (p := sF S 0 i + (x * spk S (sF S) i 0 + y * spk S (sF S) i 1 + z * spk S (sF S) i 2)) nf fG pf
                rw [← e2] at u1 u2 u3
                refine ihz (z + 1) h2 (by omega) ⟨F1.trans F2.ff, by rw [F2.2.2.2.1]; exact f46, fun k hk => by rw [F2.2.2.2.2.2.2.2.2 (m + 27) (by omega)]; exact f27 k hk, u1, fL.trans u2⟩ (fun x' y' z' x1 y1 z1 w o hoo => ?_)
                by_cases q : x' = x ∧ y' = y ∧ z' = z
                · rw [q.1, q.2.1, q.2.2]; exact u3 o hoo
                · exact u2 _ (c1 x' y' z' x1 y1 z1 (by omega) o hoo)
              have n1 : nI (tabs S i) ≤ 1 ↔ tabs S i ≤ 1 := nI_leI (b := 1) (by omega) (by decide)
              have n2 : nI (tabs S i) ≤ 2 ↔ tabs S i ≤ 2 := nI_leI (b := 2) (by omega) (by decide)
              have sp : ∀ k, ¬ k < tabs S i → spk S (sF S) i k = 0 := fun k h => if_neg h
              have q165 : ∀ v w : Int64, v + w = nL (sF S 0 i + (x * spk S (sF S) i 0 + y * spk S (sF S) i 1)) → VX10_fillAll_165 g m (nI i) (nI (lim S i 0)) (nI (lim S i 1)) (nI (lim S i 2)) (nI x) (nI y) (nI z) v w h1 0 0 Q := by
                intro v w e
                refine ⟨R1.t, ?_⟩
                rw [f46, n2]
                refine ⟨fun c => q193 _ _ ?_, fun c => a_str (k := 2) (P := fun v2 => VX10_fillAll_193 g m (nI i) (nI (lim S i 0)) (nI (lim S i 1)) (nI (lim S i 2)) (nI x) (nI y) (nI z) (v + w) ((nI z).toInt64 * v2) h1 0 0 Q) R1 W i2 (by omega) f27 hst1 (q193 _ _ ?_)⟩
                · rw [e, sp 2 (by omega), Nat.mul_zero, Nat.add_zero, Int64.add_zero]
                · rw [e, nI_toInt64 (by omega), nL_mul, nL_add, Nat.add_assoc]
              have q137 : ∀ v w : Int64, v + w = nL (sF S 0 i + x * spk S (sF S) i 0) → VX10_fillAll_137 g m (nI i) (nI (lim S i 0)) (nI (lim S i 1)) (nI (lim S i 2)) (nI x) (nI y) (nI z) v w h1 0 0 Q := by
                intro v w e
                refine ⟨R1.t, ?_⟩
                rw [f46, n1]
                refine ⟨fun c => q165 _ _ ?_, fun c => a_str (k := 1) (P := fun v2 => VX10_fillAll_165 g m (nI i) (nI (lim S i 0)) (nI (lim S i 1)) (nI (lim S i 2)) (nI x) (nI y) (nI z) (v + w) ((nI y).toInt64 * v2) h1 0 0 Q) R1 W i2 (by omega) f27 hst1 (q165 _ _ ?_)⟩
                · rw [e, sp 1 (by omega), Nat.mul_zero, Nat.add_zero, Int64.add_zero]
                · rw [e, nI_toInt64 (by omega), nL_mul, nL_add, Nat.add_assoc]
              refine vX10_fillAll_98 ⟨fun c => absurd c (by rw [nI_leI (by omega) (by omega)]; omega), fun _ => ?_⟩
              obtain ⟨k1, k2, k3⟩ := R1.k21
              refine ⟨R1.t, by rw [k1]; exact jsn, by rw [k1, jd_s]; exact k2, by rw [k1, jd_s, k3]; exact vp_in_nI (by omega) (by decide), ?_⟩
              have epl : jL h1 (jd (jr h1 539 m)) (nI i : Int32).toNatClampNeg = nL (sF S 0 i) := by rw [k1, jd_s, nI_clamp (by omega), gL]; exact hpl
              rw [epl, f46, le0 (by omega)]
              refine ⟨fun c => q137 _ _ ?_, fun c => a_str (k := 0) (P := fun v2 => VX10_fillAll_137 g m (nI i) (nI (lim S i 0)) (nI (lim S i 1)) (nI (lim S i 2)) (nI x) (nI y) (nI z) (nL (sF S 0 i)) ((nI x).toInt64 * v2) h1 0 0 Q) R1 W i2 (by omega) f27 hst1 (q137 _ _ ?_)⟩
              · rw [sp 0 (by omega), Nat.mul_zero, Nat.add_zero, Int64.add_zero]
              · rw [nI_toInt64 (by omega), nL_mul, nL_add]
          exact l98 (lim S i 2) 0 h1 (by omega) s1 (fun x' y' z' x1 y1 z1 w o hoo => c1 x' y' z' x1 y1 z1 (by omega) o hoo)
      exact l89 (lim S i 1) 0 h1 (by omega) s1 (fun x' y' z' x1 y1 z1 w o hoo => c1 x' y' z' x1 y1 z1 (by omega) o hoo)
  have R0 := R.ff F0
  have n1 : nI (tabs S i) ≤ 1 ↔ tabs S i ≤ 1 := nI_leI (b := 1) (by omega) (by decide)
  have n2 : nI (tabs S i) ≤ 2 ↔ tabs S i ≤ 2 := nI_leI (b := 2) (by omega) (by decide)
  have l1 : ∀ k, ¬ k < tabs S i → lim S i k = 1 := fun k h => if_neg h
  have fin := l80 (lim S i 0) 0 h0 (by omega) ⟨F0, e46, e27, by rw [e20]; exact hG, by rw [e20]; exact bLE.rf⟩ (fun x' y' z' x1 y1 z1 w => by omega)
  have q51 : VX10_fillAll_51 g m (nI i) (nI (lim S i 0)) (nI (lim S i 1)) h0 0 0 Q := by
    refine ⟨R0.t, ?_⟩
    rw [e46, n2]
    refine ⟨fun c => ?_, fun c => a_mo (k := 2) (P := fun v => jG g mX10_fillAll 80 [(0, .inr (.inr (some m))), (1, .inl (nI i)), (2, .inl (nI (lim S i 0))), (3, .inl (nI (lim S i 1))), (4, .inl v), (5, .inl 0)] [] h0 0 0 Q) R0 W i2 (by omega) e27 fin⟩
    rw [l1 2 (by omega)] at fin
    exact fin
  have q27 : VX10_fillAll_27 g m (nI i) (nI (lim S i 0)) h0 0 0 Q := by
    refine ⟨R0.t, ?_⟩
    rw [e46, n1]
    refine ⟨fun c => ?_, fun c => a_mo (k := 1) (P := fun v => VX10_fillAll_51 g m (nI i) (nI (lim S i 0)) v h0 0 0 Q) R0 W i2 (by omega) e27 q51⟩
    rw [l1 1 (by omega)] at q51
    exact q51
  refine ⟨R0.t, ?_⟩
  rw [e46, le0 (by omega)]
  refine ⟨fun c => ?_, fun c => a_mo (k := 0) (P := fun v => VX10_fillAll_27 g m (nI i) v h0 0 0 Q) R0 W i2 (by omega) e27 q27⟩
  rw [l1 0 (by omega)] at q27
  exact q27
end ModK
