/-! the reference's subscript -/
section ModO
variable {g : jg} {h h' h1 : jh} {S : sg} {m : Nat} {Q : jq}
/-- with looking, where subscripts lead is within the bytes -/
def sbO (S : sg) (i : Nat) (gv : Nat → Int32) : Nat → Nat → Prop := fun k n => ∀ j, k ≤ j → j < k + n → 1 ≤ (gv j).toInt ∧ (gv j).toInt ≤ nw S (tout S (tabs S i - j) i)
theorem sb_in (W : WA S) (hd : ¬ laid S = 0) {i : Nat} (i1 : 1 ≤ i) (i2 : i ≤ sN S) (hl : lies S i = true) {x : Nat → Nat} (hx : ∀ k, k < tabs S i → x k < mo S (tki S i k)) : pl S i + (x 0 * spk S (sF S) i 0 + x 1 * spk S (sF S) i 1 + x 2 * spk S (sF S) i 2) + ln S i ≤ tot S := by
  have WBh := W.wb
  have h3 := WBh.tab i
  obtain ⟨l1, l2⟩ := W.2.2.2.2.2.1
  obtain ⟨ok, -, et, -⟩ := l2 (by omega)
  obtain ⟨-, p1, p2, -⟩ := W.plc hd i
  have r0 : rn S i = 0 := by
    by_cases w : rn S i = 0
    · exact w
    · have := ((W.2.2.1.2.2.2.2.2.2.2.2.1 i).2 w).2.2.1
      have := lies_of hl
      omega
  rw [if_pos r0] at p1 p2
  have hL : ∀ k, (if k < tabs S i then x k else 0) < lim S i k := by
    intro k
    unfold lim
    by_cases q : k < tabs S i
    · rw [if_pos q, if_pos q]; exact hx k q
    · rw [if_neg q, if_neg q]; decide
  have hs : ∀ k, (if k < tabs S i then x k else 0) * spk S (sF S) i k = x k * spk S (sF S) i k := by
    intro k
    by_cases q : k < tabs S i
    · rw [if_pos q]
    · have : spk S (sF S) i k = 0 := if_neg q
      rw [this, Nat.mul_zero, Nat.mul_zero]
  obtain ⟨f, f1, f2⟩ := ent_f (F := sF S) WBh.p h3 (hL 0) (hL 1) (hL 2)
  have := off_all WBh ok i1 i2 hl f1
  have f2' : off S (mfin S (gU S) true) f 1 i = x 0 * spk S (sF S) i 0 + x 1 * spk S (sF S) i 1 + x 2 * spk S (sF S) i 2 := by
    refine f2.trans ?_
    rw [hs 0, hs 1, hs 2]
  rw [f2'] at this
  rw [p1, p2, et]
  exact this
theorem RM.ff (M : RM h S m) (F : FF m h h') (e : jI h' (m + 20) = jI h (m + 20)) : RM h' S m := by
  obtain ⟨m1, m2, m3, m4, m5, m6, m7, m8, m9⟩ := M
  have fm := F.ml.1
  obtain ⟨-, -, -, y4, -, -, y7, -, y9⟩ := F
  refine ⟨m1.fm fm, by rw [y4 _ _ (by omega)]; exact m2, by rw [y4 _ _ (by omega)]; exact m3, by rw [y4 _ _ (by omega)]; exact m4, by rw [y4 _ _ (by omega)]; exact m5, fun j i x1 x2 x3 x4 => ?_, fun i x1 x2 => ?_, fun i k x1 x2 x3 => ?_, fun l => ?_⟩
  · rw [y9 _ (by omega) (by omega)]; exact m6 j i x1 x2 x3 x4
  · rw [y9 _ (by omega) (by omega)]; exact m7 i x1 x2
  · rw [y9 _ (by omega) (by omega), y9 _ (by omega) (by omega)]; exact m8 i k x1 x2 x3
  · obtain ⟨l1, l2, l3, l4⟩ := m9 l
    refine ⟨by rw [y4 _ _ (by omega)]; exact l1, by rw [y4 _ _ (by omega)]; exact l2, by rw [e]; exact l3, ?_⟩
    rw [y7]; exact l4
theorem RM.lkd (M : RM h S m) {v : Nat} : RM (jsi h 535 m (nI v)) (slkd S v) m := by
  obtain ⟨m1, m2, m3, m4, m5, m6, m7, m8, m9⟩ := M
  refine ⟨m1, m2, m3, m4, ?_, fun j i x1 x2 x3 x4 => ?_, m7, m8, m9⟩
  · rw [ji_si, if_pos ⟨rfl, rfl⟩]; rfl
  · have := m6 j i x1 x2 x3 x4
    refine Eq.trans this ?_
    unfold mV
    by_cases j12 : j = 12
    · rw [if_pos j12, if_pos j12]; rfl
    · rw [if_neg j12, if_neg j12]
      congr 1
      have hb : ∀ b, b ≤ 15 → (slkd S v).1 b i = S.1 b i := fun b hb => by
        show (if b = 19 ∧ i = 0 then _ else S.1 b i) = _
        rw [if_neg (by omega)]
      exact (hb _ (by split <;> omega)).symm
theorem m_subscript (M : RM h S m) (W : WA S) {u a b c : Int32} (hQ : ∀ v, (ssub S u a b c).1 = some v → ∀ h', RM h' (ssub S u a b c).2 m → FMb m h h' → ji h' 512 m = 0 → Q (.inl (some (.inl v))) h') (hX : (ssub S u a b c).1 = none → ∀ h' v, RM h' (ssub S u a b c).2 m → FMb m h h' → ji h' 512 m = 1 → Q (.inl (some (.inl v))) h') : jM g mX10_subscript [.inr (.inr (some m)), .inl u, .inl a, .inl b, .inl c] h 0 0 Q := by
  have hN := W.n
  have hp := W.wb.p
  have F := W.1
  have le := fnd_le S u hN
  have WMh := WM_of W.1 W.2.1 W.2.2.1 W.2.2.2.2.2.1
  have hk : looks S ≤ 1 := W.2.2.2.2.2.2.1
  refine eX10_subscript ⟨M.t, fun h2 e2 => ?_⟩
  have M2 : RM h2 S m := by rw [e2]; exact M.th
  have f2 : FMb m h h2 := FMb.si e2 (by decide)
  have th2 : ji h2 512 m = 0 := by rw [e2, ji_si, if_pos ⟨rfl, rfl⟩]
  refine m_refused (b := true) M2 W ?_
  rw [jki_i, rfu_0]
  refine ⟨fun q => ?_, fun q => ?_⟩
  rotate_left
  · have e : ssub S u a b c = (some (refus S (fnd S u) true), S) := if_pos q
    rw [e] at hQ
    unfold rfu
    rw [if_neg q]
    exact hQ _ rfl h2 M2 f2 th2
  obtain ⟨r1, r2, r3, r4⟩ := refus_0 q
  have es : ssub S u a b c = (match ssbR S (fnd S u) (sgv a b c) with
      | (none, lk) => (some (-6), slkd S lk)
      | (some t, lk) => if t < 0 ∨ (tot S : Int) < t + ln S (fnd S u) then (none, slkd S lk) else (some (Int32.ofInt t), slkd S lk)) := if_neg (fun w => w q)
  have l1 := WMh.l1 r3
  have MM := (WMh.2 l1).2
  have t2 := (WMh.2 l1).1
  have eu := fnd_eq hN r1
  generalize hi : fnd S u = i at *
  subst eu
  have i1 : 1 ≤ i := by omega
  have li := W.li i1 le r2 (r4 rfl)
  have mm := (MM i i1 le).1 r2
  have h3 := W.wb.tab i
  refine ⟨M2.t, s_findAround M2.s W le (Or.inr li) (fun h0 F0 e20 e46 e27 => ?_)⟩
  rw [jkv_i]
  have M0 := M2.ff F0 e20
  have f0 : FMb m h h0 := f2.trans F0.ml.1
  have th0 : ji h0 512 m = 0 := by rw [F0.2.2.2.1 _ _ (by omega)]; exact th2
  obtain ⟨v1, v2, v3, v4⟩ := M0.rl W r3 i1 le li
  obtain ⟨k1, k2, k3⟩ := M0.s.k21
  obtain ⟨n1, n2, n3⟩ := M0.s.k22
  obtain ⟨e36, -, -, -⟩ := M0.2.2.2.2.2.2.2.2 l1
  have hst : ∀ t, 1 ≤ t → t ≤ sN S → ¬ tb S t = 0 → jL h0 (m + 23) t = nL (sF S 2 t) := by
    intro t t1 t2' tt
    have lt : lies S t = true := by
      have := W.wb.tm tt
      exact lies_mk (Or.inl (by omega))
    rw [(M0.rl W r3 t1 t2' lt).2.2.1 tt, (W.plc r3 t).2.2.2.1]
  have kl0 : ∀ lk, ji (jsi h0 535 m (nI lk)) 534 m = 0 ↔ looks S = 0 := fun lk => by
    rw [ji_si, if_neg (by omega), M0.2.2.2.1]
    exact nI_eq (b := 0) (by omega) (by decide)
  have loop : ∀ n k (y : Int64) lk, k + n = tabs S i → -(((k + 1 : Nat) : Int) * 2 ^ 46) ≤ y.toInt → y.toInt ≤ ((k + 1 : Nat) : Int) * 2 ^ 46 → sbF S i (sgv a b c) n (k + 1) y.toInt lk = ssbR S i (sgv a b c) → (looks S = 0 ∨ ∃ x : Nat → Nat, (∀ j, k ≤ j → x j = 0) ∧ (∀ j, j < k → x j < mo S (tki S i j)) ∧ y.toInt = ((pl S i + (x 0 * spk S (sF S) i 0 + x 1 * spk S (sF S) i 1 + x 2 * spk S (sF S) i 2) : Nat) : Int)) → jG g mX10_subscript 37 [(0, .inr (.inr (some m))), (1, .inl (nI i)), (2, .inl a), (3, .inl b), (4, .inl c), (6, .inr (.inl y)), (8, .inl (nI k))] [] (jsi h0 535 m (nI lk)) 0 0 Q := by
    intro n
    induction n with
    | zero =>
      intro k y lk e y1 y2 eq inv
      have ek : k = tabs S i := by omega
      subst ek
      have M1 := M0.lkd (v := lk)
      have f1 : FMb m h (jsi h0 535 m (nI lk)) := f0.trans (FMb.si rfl (by decide))
      have th1 : ji (jsi h0 535 m (nI lk)) 512 m = 0 := by rw [ji_si, if_neg (by omega)]; exact th0
      have eq' : ssbR S i (sgv a b c) = (some y.toInt, lk) := eq.symm
      rw [eq'] at es
      have es' : ssub S (nI i) a b c = if y.toInt < 0 ∨ (tot S : Int) < y.toInt + ln S i then (none, slkd S lk) else (some (Int32.ofInt y.toInt), slkd S lk) := es
      have ey : Int32.ofInt y.toInt = y.toInt32 := rfl
      have good : ¬ (y.toInt < 0 ∨ (tot S : Int) < y.toInt + ln S i) → Q (.inl (some (.inl y.toInt32))) (jsi h0 535 m (nI lk)) := fun w => by
        rw [if_neg w] at es'
        rw [es'] at hQ
        rw [← ey]
        exact hQ _ rfl _ M1 f1 th1
      have bad : (y.toInt < 0 ∨ (tot S : Int) < y.toInt + ln S i) → ∀ h28 : jh, h28 = jsi (jsi h0 535 m (nI lk)) 512 m 1 → Q (.inl (some (.inl 0))) h28 := fun w h28 e28 => by
        rw [if_pos w] at es'
        rw [es'] at hX
        refine hX rfl h28 0 ?_ (f1.trans (FMb.si e28 (by decide))) ?_
        · rw [e28]; exact M1.th
        · rw [e28, ji_si, if_pos ⟨rfl, rfl⟩]
      have y0 : y < 0 ↔ y.toInt < 0 := by rw [Int64.lt_iff_toInt_lt]; rfl
      have q46 : ji (jsi h0 535 m (nI lk)) 546 m = nI (tabs S i) := by rw [ji_si, if_neg (by omega)]; exact e46
      have q36 : ji (jsi h0 535 m (nI lk)) 536 m = nI (tot S) := by rw [ji_si, if_neg (by omega)]; exact e36
      have p1 : jr (jsi h0 535 m (nI lk)) 540 m = some (m + 22) := n1
      have p2 : jt (jsi h0 535 m (nI lk)) (m + 22) = 22 := n2
      have p3 : jn (jsi h0 535 m (nI lk)) (m + 22) = 121 := n3
      have p4 : jL (jsi h0 535 m (nI lk)) (m + 22) i = nL (ln S i) := v2
      refine vX10_subscript_37 ⟨M0.t, fun _ => ?_, fun w => absurd (by rw [q46]; exact Int32.le_refl _) w⟩
      rw [kl0, y0, q36, p1, jd_s, p2, p3, nI_clamp (by omega), p4, nI_toInt64 (by omega)]
      have le' : y + nL (ln S i) ≤ nL (tot S) ↔ ¬ (tot S : Int) < y.toInt + ln S i := by
        rw [Int64.le_iff_toInt_le, Int64.toInt_add, nL_toInt (by omega), nL_toInt (by omega), bm64 (by omega) (by omega)]; omega
      rw [le']
      refine ⟨fun w => ?_, fun w => ⟨fun w2 => bad (Or.inl w2), fun w2 => ⟨jsn, rfl, vp_in_nI (by omega) (by decide), fun w3 => good (fun z => by rcases z with z | z; exact w2 z; exact w3 z), fun w3 => bad (Or.inr (Decidable.not_not.mp w3))⟩⟩⟩
      obtain ⟨x, x1, x2, x3⟩ := inv.resolve_left w
      have := sb_in W r3 i1 le li x2
      exact good (by omega)
    | succ n ih =>
      intro k y lk e y1 y2 eq inv
      have hkt : k < tabs S i := by omega
      obtain ⟨T1, T2, T3⟩ := tki_ok W le hkt
      have eT : tout S (tabs S i - (k + 1)) i = tki S i k := by
        unfold tki
        congr 1; omega
      have wsd := (MM _ T1 T2).2.2 T3
      have esd : spk S (sF S) i k = sd S (tki S i k) := by
        unfold spk
        rw [if_pos hkt, (W.plc r3 (tki S i k)).2.2.2.1]
      generalize hv : sgv a b c (k + 1) = v at *
      have sbs : sbF S i (sgv a b c) (n + 1) (k + 1) y.toInt lk = if looks S = 0 then sbF S i (sgv a b c) n (k + 1 + 1) (y.toInt + ((sgv a b c (k + 1)).toInt - 1) * (sd S (tout S (tabs S i - (k + 1)) i) : Int)) lk else if (sgv a b c (k + 1)).toInt < 1 ∨ (nw S (tout S (tabs S i - (k + 1)) i) : Int) < (sgv a b c (k + 1)).toInt then (none, lk + 1) else sbF S i (sgv a b c) n (k + 1 + 1) (y.toInt + ((sgv a b c (k + 1)).toInt - 1) * (sd S (tout S (tabs S i - (k + 1)) i) : Int)) (lk + 1) := rfl
      rw [eT, hv] at sbs
      rw [sbs] at eq
      have g1 := v.le_toInt
      have g2 := v.toInt_lt
      have wnw := F.2.2.2.2.2.2.2.1 (tki S i k)
      have wmo := F.2.2.2.2.2.2.1 (tki S i k)
      have st : ∀ lk', sbF S i (sgv a b c) n (k + 1 + 1) (y.toInt + (v.toInt - 1) * (sd S (tki S i k) : Int)) lk' = ssbR S i (sgv a b c) → (looks S = 0 ∨ (1 ≤ v.toInt ∧ v.toInt ≤ (nw S (tki S i k) : Int))) → VX10_subscript_123 g m (nI i) a b c y (nI k) v (jsi h0 535 m (nI lk')) 0 0 Q := by
        intro lk' eq2 inr
        have mb : -(2 ^ 31 * 20000) ≤ (v.toInt - 1) * (sd S (tki S i k) : Int) - 0 + 20000 ∧ (v.toInt - 1) * (sd S (tki S i k) : Int) ≤ 2 ^ 31 * 20000 := by
          have d0 : (0 : Int) ≤ (sd S (tki S i k) : Int) := by omega
          have d1 : (sd S (tki S i k) : Int) ≤ 20000 := by omega
          constructor
          · have h1 : (-(2 ^ 31) - 1) * (sd S (tki S i k) : Int) ≤ (v.toInt - 1) * (sd S (tki S i k) : Int) := Int.mul_le_mul_of_nonneg_right (by omega) d0
            have h2 : (2 ^ 31 + 1) * (sd S (tki S i k) : Int) ≤ (2 ^ 31 + 1) * 20000 := Int.mul_le_mul_of_nonneg_left d1 (by decide)
            have h3 : (-(2 ^ 31) - 1) * (sd S (tki S i k) : Int) = -((2 ^ 31 + 1) * (sd S (tki S i k) : Int)) := by rw [show (-(2 ^ 31) - 1 : Int) = -(2 ^ 31 + 1) by decide, Int.neg_mul]
            omega
          · have h1 : (v.toInt - 1) * (sd S (tki S i k) : Int) ≤ 2 ^ 31 * (sd S (tki S i k) : Int) := Int.mul_le_mul_of_nonneg_right (by omega) d0
            omega
        have ev : (y + (v.toInt64 - 1) * nL (sd S (tki S i k))).toInt = y.toInt + (v.toInt - 1) * (sd S (tki S i k) : Int) := by
          rw [Int64.toInt_add, Int64.toInt_mul, Int64.toInt_sub, Int32.toInt_toInt64, show (1 : Int64).toInt = 1 from rfl, nL_toInt (by omega), bm64 (x := v.toInt - 1) (by omega) (by omega), bm64 (x := (v.toInt - 1) * (sd S (tki S i k) : Int)) (by omega) (by omega), bm64 (by omega) (by omega)]
        refine ⟨M0.t, a_str (P := fun w => jG g mX10_subscript 37 [(0, .inr (.inr (some m))), (1, .inl (nI i)), (2, .inl a), (3, .inl b), (4, .inl c), (6, .inr (.inl (y + (v.toInt64 - 1) * w))), (8, .inl (nI k + 1))] [] (jsi h0 535 m (nI lk')) 0 0 Q) M0.s W le hkt e27 hst ?_⟩
        rw [esd, nI_1]
        refine ih (k + 1) _ lk' (by omega) ?_ ?_ ?_ ?_
        · rw [ev]; omega
        · rw [ev]; omega
        · rw [ev]; exact eq2
        · rcases inv with w | ⟨x, x1, x2, x3⟩
          · exact Or.inl w
          · rcases inr with w | ⟨w1, w2⟩
            · exact Or.inl w
            · right
              refine ⟨fun j => if j = k then (v.toInt - 1).toNat else x j, fun j hj => ?_, fun j hj => ?_, ?_⟩
              · show (if _ then _ else _) = _
                rw [if_neg (by omega)]; exact x1 j (by omega)
              · show (if _ then _ else _) < _
                by_cases z : j = k
                · rw [if_pos z, z]; omega
                · rw [if_neg z]; exact x2 j (by omega)
              · rw [ev, x3]
                obtain ⟨d, hd⟩ : ∃ d : Nat, v.toInt - 1 = (d : Int) := ⟨(v.toInt - 1).toNat, by omega⟩
                rw [hd, Int.toNat_natCast]
                have hc : k = 0 ∨ k = 1 ∨ k = 2 := by omega
                have xk := x1 k (Nat.le_refl _)
                rcases hc with z | z | z <;> subst z <;> simp only [xk, esd] <;> simp <;> push_cast <;> omega
      have h86 : VX10_subscript_67 g m (nI i) a b c y (nI k) v (jsi h0 535 m (nI lk)) 0 0 Q := by
        unfold VX10_subscript_67
        have k35 : ji (jsi h0 535 m (nI lk)) 535 m = nI lk := by rw [ji_si, if_pos ⟨rfl, rfl⟩]
        rw [kl0, k35]
        refine ⟨M0.t, fun q3 => ?_, fun q3 => ?_⟩
        · refine ⟨jsn, M0.t, fun h10 e10 => ?_⟩
          rw [jd_s, jsi_two, Int32.add_zero] at e10
          subst e10
          refine ⟨M0.t, fun _ => ?_, fun w => absurd ((kl0 lk).mpr q3) w⟩
          rw [if_pos q3] at eq
          exact st lk eq (Or.inl q3)
        · refine ⟨jsn, M0.t, fun h10 e10 => ?_⟩
          rw [jd_s, jsi_two, nI_1] at e10
          subst e10
          refine ⟨M0.t, fun w => absurd ((kl0 _).mp w) q3, fun _ => ?_⟩
          rw [if_neg q3] at eq
          have s1 : v < 1 ↔ v.toInt < 1 := by rw [Int32.lt_iff_toInt_lt]; rfl
          have s2 : v ≤ nI (nw S (tki S i k)) ↔ ¬ (nw S (tki S i k) : Int) < v.toInt := by rw [Int32.le_iff_toInt_le, nI_toInt (by omega)]; omega
          have bad : (v.toInt < 1 ∨ (nw S (tki S i k) : Int) < v.toInt) → Q (.inl (some (.inl (-6)))) (jsi h0 535 m (nI (lk + 1))) := fun q4 => by
            rw [if_pos q4] at eq
            rw [← eq] at es
            have es' : ssub S (nI i) a b c = (some (-6), slkd S (lk + 1)) := es
            rw [es'] at hQ
            refine hQ _ rfl _ (M0.lkd (v := lk + 1)) (f0.trans (FMb.si rfl (by decide))) ?_
            rw [ji_si, if_neg (by omega)]; exact th0
          rw [s1]
          refine ⟨fun q4 => bad (Or.inl q4), fun q4 => ?_⟩
          obtain ⟨kk1, kk2, kk3⟩ := M0.s.k27
          obtain ⟨w1, w2, w3, w4⟩ := M0.anw (i := tki S i k) T1 (by omega)
          have c1 : jr (jsi h0 535 m (nI (lk + 1))) 545 m = some (m + 27) := kk1
          have c2 : jt (jsi h0 535 m (nI (lk + 1))) (m + 27) = 20 := kk2
          have c3 : jn (jsi h0 535 m (nI (lk + 1))) (m + 27) = 4 := kk3
          have c4 : jI (jsi h0 535 m (nI (lk + 1))) (m + 27) k = nI (tki S i k) := e27 k hkt
          have c5 : jI (jsi h0 535 m (nI (lk + 1))) (jd (jr (jsi h0 535 m (nI (lk + 1))) 522 m)) (nI (tki S i k)).toNatClampNeg = nI (nw S (tki S i k)) := w4
          rw [c1, jd_s, c2, c3, nI_clamp (n := k) (by omega), c4, c5, s2]
          refine ⟨jsn, rfl, vp_in_nI (by omega) (by decide), w1, w2, w3, fun q5 => ?_, fun q5 => bad (Or.inr (Decidable.not_not.mp q5))⟩
          rw [if_neg (fun w => by rcases w with w | w; exact q4 w; exact q5 w)] at eq
          exact st (lk + 1) eq (Or.inr (by omega))
      have q46 : ji (jsi h0 535 m (nI lk)) 546 m = nI (tabs S i) := by rw [ji_si, if_neg (by omega)]; exact e46
      have z0 : nI k = 0 ↔ k = 0 := nI_eq (b := 0) (by omega) (by decide)
      have z1 : nI k = 1 ↔ k = 1 := nI_eq (b := 1) (by omega) (by decide)
      refine vX10_subscript_37 ⟨M0.t, fun w => absurd w (by rw [q46, nI_leI (by omega) (by omega)]; omega), fun _ => ?_⟩
      rw [z0, z1]
      refine ⟨fun w => ⟨fun w2 => ?_, fun w2 => ?_⟩, fun w => ?_⟩
      · have : v = c := by rw [← hv]; unfold sgv; rw [if_neg (by omega), if_neg (by omega)]
        rw [this] at h86; exact h86
      · have : v = b := by rw [← hv, w2]; rfl
        rw [this] at h86; exact h86
      · have : v = a := by rw [← hv, w]; rfl
        rw [this] at h86; exact h86
  rw [k1, jd_s, k3, nI_clamp (by omega), v1]
  have e35 : ji h0 535 m = nI (looked S) := M0.2.2.2.2.1
  have := loop (tabs S i) 0 (nL (pl S i)) (looked S) (by omega) (by rw [nL_toInt (by omega)]; omega) (by rw [nL_toInt (by omega)]; omega) (by rw [nL_toInt (by omega)]; rfl) (Or.inr ⟨fun _ => 0, fun _ _ => rfl, fun j hj => by omega, by rw [nL_toInt (by omega)]; simp⟩)
  rw [jsi_id e35] at this
  exact ⟨M0.t, jsn, k2, vp_in_nI (by omega) (by decide), this⟩
end ModO
