/-! readers: subscript -/
def sgv (a b c : Int32) (k : Nat) : Int32 := if k = 1 then a else if k = 2 then b else c
def slkd (S : sg) (v : Nat) : sg := (fun a i => if a = 19 ∧ i = 0 then v else S.1 a i, S.2)
/-- where subscripts lead (none: a wrong one), how many have been looked at -/
def sbF (S : sg) (i : Nat) (gv : Nat → Int32) : Nat → Nat → Int → Nat → Option Int × Nat
  | 0, _, acc, lk => (some acc, lk)
  | n + 1, k, acc, lk => if looks S = 0 then sbF S i gv n (k + 1) (acc + ((gv k).toInt - 1) * (sd S (tout S (tabs S i - k) i) : Int)) lk else if (gv k).toInt < 1 ∨ (nw S (tout S (tabs S i - k) i) : Int) < (gv k).toInt then (none, lk + 1) else sbF S i gv n (k + 1) (acc + ((gv k).toInt - 1) * (sd S (tout S (tabs S i - k) i) : Int)) (lk + 1)
def ssbR (S : sg) (i : Nat) (gv : Nat → Int32) : Option Int × Nat := sbF S i gv (tabs S i) 1 (pl S i) (looked S)
def ssub (S : sg) (u a b c : Int32) : Option Int32 × sg := if ¬ refus S (fnd S u) true = 0 then (some (refus S (fnd S u) true), S) else
  match ssbR S (fnd S u) (sgv a b c) with
  | (none, lk) => (some (-6), slkd S lk)
  | (some t, lk) => if t < 0 ∨ (tot S : Int) < t + ln S (fnd S u) then (none, slkd S lk) else (some (Int32.ofInt t), slkd S lk)
theorem jsi_id {h : jh} {k a : Nat} {v : Int32} (e : ji h k a = v) : jsi h k a v = h := by
  obtain ⟨z, t, i, l, r, n, I, L, R⟩ := h
  unfold jsi
  have : (fun k' a' => if k' = k ∧ a' = a then v else ji (z, t, i, l, r, n, I, L, R) k' a') = i := by
    funext k' a'
    by_cases q : k' = k ∧ a' = a
    · rw [if_pos q, q.1, q.2]; exact e.symm
    · rw [if_neg q]; rfl
  exact congrArg (fun w => (z, t, w, l, r, n, I, L, R)) this
theorem jsi_two {h : jh} {k a : Nat} {v w : Int32} : jsi (jsi h k a v) k a w = jsi h k a w := by
  obtain ⟨z, t, i, l, r, n, I, L, R⟩ := h
  have : (fun k' a' => if k' = k ∧ a' = a then w else ji (jsi (z, t, i, l, r, n, I, L, R) k a v) k' a') = (fun k' a' => if k' = k ∧ a' = a then w else ji (z, t, i, l, r, n, I, L, R) k' a') := by
    funext k' a'
    by_cases q : k' = k ∧ a' = a
    · rw [if_pos q, if_pos q]
    · rw [if_neg q, if_neg q, ji_si, if_neg q]
  exact congrArg (fun w => (z, t, w, l, r, n, I, L, R)) this
section Sub1
variable {g : jg} {h : jh} {S : sg} {x b1 b2 tr rw pn so al : Nat} {ad : Nat → Nat} {Q : jq}
theorem tout_ok (hp : ∀ i, 0 < i → cpa S i < i) : ∀ i a, a < tabs S i → 1 ≤ tout S a i ∧ tout S a i ≤ i ∧ ¬ tb S (tout S a i) = 0 ∧ onc S i (tout S a i) = true := by
  intro i
  induction i using Nat.strongRecOn with
  | _ i ih =>
    intro a ha
    by_cases h0 : i = 0
    · subst h0; cases ha
    · have ts := tabs_step hp (j := i) (by omega)
      have pi := hp i (by omega)
      rw [tout_step hp (by omega)]
      by_cases t0 : tb S i = 0
      · rw [if_pos t0]
        rw [if_neg (by omega)] at ts
        obtain ⟨q1, q2, q3, q4⟩ := ih _ pi a (by omega)
        exact ⟨q1, by omega, q3, onc_up hp (by omega) q4⟩
      · rw [if_neg t0]
        rw [if_pos t0] at ts
        by_cases a0 : a = 0
        · rw [if_pos a0]; exact ⟨by omega, Nat.le_refl _, t0, onc_self hp (by omega)⟩
        · rw [if_neg a0]
          obtain ⟨q1, q2, q3, q4⟩ := ih _ pi (a - 1) (by omega)
          exact ⟨q1, by omega, q3, onc_up hp (by omega) q4⟩
theorem RCx.lkd (C : RCx h S x b1 b2 tr pn so rw al ad) {v : Nat} : RCx (jsi h 453 x (nI v)) (slkd S v) x b1 b2 tr pn so rw al ad ∧ FB b1 b2 h (jsi h 453 x (nI v)) := by
  obtain ⟨x1, x2, x3, x4, x5, x6, x7, x8, x9, x10, x11, x12, x13, x14, R, H, B, J, L⟩ := id C
  refine ⟨⟨x1, x2, x3, x4, x5, x6, ?_, x8, x9, x10, x11, x12, x13, x14, R, H, B, J, L⟩, fun a _ _ => ⟨rfl, rfl, fun k hk => ⟨?_, rfl, rfl⟩, fun _ => ⟨rfl, rfl, rfl⟩⟩⟩
  · rw [ji_si, if_pos ⟨rfl, rfl⟩]; rfl
  · rw [ji_si, if_neg (by omega)]
theorem c_subscript (C : RCx h S x b1 b2 tr pn so rw al ad) (M : WM S) (hk : looks S ≤ 1) (h3 : ∀ i, tabs S i ≤ 3) {u a b c : Int32} (hQ : ∀ v, (ssub S u a b c).1 = some v → ∀ h', RC h' (ssub S u a b c).2 x b1 b2 (jn h al) → FB b1 b2 h h' → Q (.inl (some (.inl v))) h') (hX : (ssub S u a b c).1 = none → ∀ h', RC h' (ssub S u a b c).2 x b1 b2 (jn h al) → FB b1 b2 h h' → Q (.inr 0) h') : jM g mX9_subscript [.inr (.inr (some x)), .inl u, .inl a, .inl b, .inl c] h 1 6 Q := by
  obtain ⟨x1, x2, x3, x4, x5, x6, x7, x8, x9, x10, x11, x12, x13, x14, R, H, B, J, L⟩ := id C
  have hN := R.N
  have hf := fnd_le S u R.N
  have z : rO ad (fnd S u) = none ↔ fnd S u = 0 := rO_none
  refine eX9_subscript ⟨x1, ?_⟩
  rw [x2, jd_s]
  refine ⟨jsn, R.tg, c_find R ?_⟩
  rw [jkr_i]
  refine ⟨x1, c_refusal (b := true) C M hf ?_⟩
  rw [jki_i, z]
  refine ⟨fun q => ?_, fun q => ?_⟩
  · have e : ssub S u a b c = (some (refus S (fnd S u) true), S) := if_pos q
    rw [e] at hQ
    exact hQ _ rfl h ⟨tr, pn, so, rw, al, ad, C, rfl⟩ FB.rf
  · obtain ⟨r1, r2, r3, r4⟩ := refus_0 q
    have es : ssub S u a b c = (match ssbR S (fnd S u) (sgv a b c) with
      | (none, lk) => (some (-6), slkd S lk)
      | (some t, lk) => if t < 0 ∨ (tot S : Int) < t + ln S (fnd S u) then (none, slkd S lk) else (some (Int32.ofInt t), slkd S lk)) := if_neg (fun w => w q)
    have l1 := M.l1 r3
    have LL := (L l1).2.2.2.2
    have MM := (M.2 l1).2
    have t2 := (M.2 l1).1
    generalize hi : fnd S u = i at *
    have hi1 : 1 ≤ i := by omega
    have ll := (LL i hi1 hf).1 r2
    have mm := (MM i hi1 hf).1 r2
    rw [rO_jd r1, R.sp hi1 hf, jd_s, ll.1]
    refine ⟨fun _ => ⟨R.ty hi1 hf, jsn, R.st hi1 hf, c_tabs R hi1 hf ?_⟩, fun w => absurd w r1⟩
    rw [jki_i]
    have ht3 := h3 i
    have kl0 : ∀ lk, ji (jsi h 453 x (nI lk)) 452 x = 0 ↔ looks S = 0 := fun lk => by
      rw [ji_si, if_neg (by omega), x6, show (0 : Int32) = nI 0 from rfl, nI_eq (by omega) (by decide)]
    have loop : ∀ n k (y : Int64) lk, k + n = tabs S i + 1 → 1 ≤ k → -((k : Int) * 2 ^ 46) ≤ y.toInt → y.toInt ≤ (k : Int) * 2 ^ 46 → sbF S i (sgv a b c) n k y.toInt lk = ssbR S i (sgv a b c) → jG g mX9_subscript 52 [(0, .inr (.inr (some x))), (2, .inl a), (3, .inl b), (4, .inl c), (5, .inr (.inr (rO ad i))), (7, .inr (.inl y)), (9, .inl (nI (tabs S i))), (10, .inl (nI k))] [] (jsi h 453 x (nI lk)) 1 6 Q := by
      intro n
      induction n with
      | zero =>
        intro k y lk e hk1 y1 y2 eq
        obtain ⟨C1, F1⟩ := C.lkd (v := lk)
        have R1 : RTree (jsi h 453 x (nI lk)) S tr rw ad := R
        have eq' : ssbR S i (sgv a b c) = (some y.toInt, lk) := eq.symm
        rw [eq'] at es
        have es' : ssub S u a b c = if y.toInt < 0 ∨ (tot S : Int) < y.toInt + ln S i then (none, slkd S lk) else (some (Int32.ofInt y.toInt), slkd S lk) := es
        have thr : (y.toInt < 0 ∨ (tot S : Int) < y.toInt + ln S i) → ∀ w, jz (jsi h 453 x (nI lk)) ≤ w → Q (.inr 0) (jgr (jsi h 453 x (nI lk)) w) := fun q3 w hw => by
          rw [if_pos q3] at es'
          rw [es'] at hX
          have := C1.gr hw
          exact hX rfl _ this.1 (F1.trans this.2)
        have y0 : y < 0 ↔ y.toInt < 0 := by rw [Int64.lt_iff_toInt_lt]; rfl
        have h167 : VX9_subscript_167 g x (rO ad i) y (jsi h 453 x (nI lk)) 1 6 Q := by
          unfold VX9_subscript_167
          rw [y0, rO_jd r1]
          refine ⟨fun q3 => ⟨Nat.le_refl _, Nat.le_refl _, thr (Or.inl q3)⟩, fun q3 => ⟨fun w => r1 (rO_none.mp w), R1.ty hi1 hf, c_length R1 hi1 hf ll.1 ll.2 (by omega) ?_⟩⟩
          rw [jkl_i]
          have s4 : jr (jsi h 453 x (nI lk)) 450 x = some so := x4
          have u4 : ji (jsi h 453 x (nI lk)) 257 so = nI (tot S) := by rw [ji_si, if_neg (by omega)]; exact (L l1).1
          have el : pl S i + ln S i - pl S i = ln S i := by omega
          rw [s4, jd_s, u4, nI_toInt64 (by omega), el]
          have le : y + nL (ln S i) ≤ nL (tot S) ↔ ¬ (tot S : Int) < y.toInt + ln S i := by
            rw [Int64.le_iff_toInt_le, Int64.toInt_add, nL_toInt (by omega), nL_toInt (by omega), bm64 (by omega) (by omega)]; omega
          rw [le]
          refine ⟨x1, jsn, x10, fun q4 => ?_, fun q4 => ⟨Nat.le_refl _, Nat.le_refl _, thr (Or.inr (Decidable.not_not.mp q4))⟩⟩
          rw [if_neg (fun w => by rcases w with w | w; exact q3 w; exact q4 w)] at es'
          rw [es'] at hQ
          have ey : Int32.ofInt y.toInt = y.toInt32 := rfl
          rw [← ey]
          exact hQ _ rfl _ ⟨tr, pn, so, rw, al, ad, C1, rfl⟩ F1
        refine vX9_subscript_52 ⟨fun _ => h167, fun w => absurd (nI_lt (by omega) (by omega)) w⟩
      | succ n ih =>
        intro k y lk e hk1 y1 y2 eq
        obtain ⟨C1, F1⟩ := C.lkd (v := lk)
        have R1 : RTree (jsi h 453 x (nI lk)) S tr rw ad := R
        obtain ⟨to1, to2, to3, to4⟩ := tout_ok R.cp i (tabs S i - k) (by omega)
        generalize hT : tout S (tabs S i - k) i = T at *
        have hTN : T ≤ sN S := by omega
        obtain ⟨t, ht⟩ : ∃ t, jr h 10 (ad T) = some t := by
          cases hq : jr h 10 (ad T) with
          | none => exact absurd ((RT.nn R to1 hTN).mp hq) to3
          | some t => exact ⟨t, rfl⟩
        obtain ⟨w0, w1, w2, w3, w4, w5⟩ := RT.le R to1 hTN ht
        have ws := (LL T to1 hTN).2.2.2.2 t ht
        have wsd := (MM T to1 hTN).2.2 to3
        have sbs : sbF S i (sgv a b c) (n + 1) k y.toInt lk = if looks S = 0 then sbF S i (sgv a b c) n (k + 1) (y.toInt + ((sgv a b c k).toInt - 1) * (sd S (tout S (tabs S i - k) i) : Int)) lk else if (sgv a b c k).toInt < 1 ∨ (nw S (tout S (tabs S i - k) i) : Int) < (sgv a b c k).toInt then (none, lk + 1) else sbF S i (sgv a b c) n (k + 1) (y.toInt + ((sgv a b c k).toInt - 1) * (sd S (tout S (tabs S i - k) i) : Int)) (lk + 1) := rfl
        rw [hT] at sbs
        rw [sbs] at eq
        have g1 := (sgv a b c k).le_toInt
        have g2 := (sgv a b c k).toInt_lt
        -- the next place
        have st : ∀ lk', sbF S i (sgv a b c) n (k + 1) (y.toInt + ((sgv a b c k).toInt - 1) * (sd S T : Int)) lk' = ssbR S i (sgv a b c) → VX9_subscript_145 g x a b c (rO ad i) y (nI (tabs S i)) (nI k) (sgv a b c k) (some t) (jsi h 453 x (nI lk')) 1 6 Q := by
          intro lk' eq2
          have ws' : jl (jsi h 453 x (nI lk')) 324 t = nL (sd S T) := ws
          have mb : -(2 ^ 31 * 20000) ≤ ((sgv a b c k).toInt - 1) * (sd S T : Int) - 0 + 20000 ∧ ((sgv a b c k).toInt - 1) * (sd S T : Int) ≤ 2 ^ 31 * 20000 := by
            have d0 : (0 : Int) ≤ (sd S T : Int) := by omega
            have d1 : (sd S T : Int) ≤ 20000 := by omega
            constructor
            · have h1 : (-(2 ^ 31) - 1) * (sd S T : Int) ≤ ((sgv a b c k).toInt - 1) * (sd S T : Int) := Int.mul_le_mul_of_nonneg_right (by omega) d0
              have h2 : (2 ^ 31 + 1) * (sd S T : Int) ≤ (2 ^ 31 + 1) * 20000 := Int.mul_le_mul_of_nonneg_left d1 (by decide)
              have h3 : (-(2 ^ 31) - 1) * (sd S T : Int) = -((2 ^ 31 + 1) * (sd S T : Int)) := by rw [show (-(2 ^ 31) - 1 : Int) = -(2 ^ 31 + 1) by decide, Int.neg_mul]
              omega
            · have h1 : ((sgv a b c k).toInt - 1) * (sd S T : Int) ≤ 2 ^ 31 * (sd S T : Int) := Int.mul_le_mul_of_nonneg_right (by omega) d0
              omega
          have ev : (y + ((sgv a b c k).toInt64 - 1) * nL (sd S T)).toInt = y.toInt + ((sgv a b c k).toInt - 1) * (sd S T : Int) := by
            rw [Int64.toInt_add, Int64.toInt_mul, Int64.toInt_sub, Int32.toInt_toInt64, show (1 : Int64).toInt = 1 from rfl, nL_toInt (by omega), bm64 (x := (sgv a b c k).toInt - 1) (by omega) (by omega), bm64 (x := ((sgv a b c k).toInt - 1) * (sd S T : Int)) (by omega) (by omega), bm64 (by omega) (by omega)]
          refine ⟨jsn, w1, ?_⟩
          rw [jd_s, ws', nI_1]
          refine ih (k + 1) _ lk' (by omega) (by omega) ?_ ?_ ?_
          · rw [ev]; omega
          · rw [ev]; omega
          · rw [ev]; exact eq2
        have h87 : VX9_subscript_87 g x a b c (rO ad i) y (nI (tabs S i)) (nI k) (sgv a b c k) (jsi h 453 x (nI lk)) 1 6 Q := by
          refine ⟨fun w => r1 (rO_none.mp w), ?_⟩
          rw [rO_jd r1, pk_sub (by omega)]
          refine ⟨R1.ty hi1 hf, c_tout R1 hi1 hf (by omega) ?_⟩
          rw [jkr_i, hT, if_neg (by omega)]
          have ht1 : jr (jsi h 453 x (nI lk)) 10 (ad T) = some t := ht
          rw [ht1, kl0]
          refine ⟨fun _ => ⟨x1, fun q3 => ?_, fun q3 => ?_⟩, fun w => by cases w⟩
          · rw [if_pos q3] at eq
            exact st lk eq
          · intro h23 e23
            have k53 : ji (jsi h 453 x (nI lk)) 453 x = nI lk := by rw [ji_si, if_pos ⟨rfl, rfl⟩]
            rw [k53, nI_1, jsi_two] at e23
            subst e23
            rw [if_neg q3] at eq
            have s1 : sgv a b c k < 1 ↔ (sgv a b c k).toInt < 1 := by rw [Int32.lt_iff_toInt_lt]; rfl
            have n23 : ji (jsi h 453 x (nI (lk + 1))) 323 t = nI (nw S T) := by rw [ji_si, if_neg (by omega)]; exact w5
            have wnw := R.wf.2.2.2.2.2.2.2.1 T
            have wmo := R.wf.2.2.2.2.2.2.1 T
            have s2 : sgv a b c k ≤ nI (nw S T) ↔ ¬ (nw S T : Int) < (sgv a b c k).toInt := by rw [Int32.le_iff_toInt_le, nI_toInt (by omega)]; omega
            rw [s1, jd_s, n23, s2]
            have bad : ((sgv a b c k).toInt < 1 ∨ (nw S T : Int) < (sgv a b c k).toInt) → Q (.inl (some (.inl (-6)))) (jsi h 453 x (nI (lk + 1))) := fun q4 => by
              rw [if_pos q4] at eq
              rw [← eq] at es
              have es' : ssub S u a b c = (some (-6), slkd S (lk + 1)) := es
              rw [es'] at hQ
              obtain ⟨C2, F2⟩ := C.lkd (v := lk + 1)
              exact hQ _ rfl _ ⟨tr, pn, so, rw, al, ad, C2, rfl⟩ F2
            refine ⟨fun q4 => bad (Or.inl q4), fun q4 => ⟨w1, fun q5 => ?_, fun q5 => bad (Or.inr (Decidable.not_not.mp q5))⟩⟩
            rw [if_neg (fun w => by rcases w with w | w; exact q4 w; exact q5 w)] at eq
            exact st (lk + 1) eq
        have e1 : nI k = 1 ↔ k = 1 := nI_eq (b := 1) (by omega) (by decide)
        have e2 : nI k = 2 ↔ k = 2 := nI_eq (b := 2) (by omega) (by decide)
        have e3 : (3 : Int32) < nI k ↔ 3 < k := nI_ltI (a := 3) (by decide) (by omega)
        refine vX9_subscript_52 ⟨fun w => absurd w (nI_nlt (by omega) (by omega)), fun _ => ?_⟩
        rw [e1, e2, e3]
        refine ⟨fun w => absurd w (by omega), fun _ => ⟨fun w => ⟨fun w2 => ?_, fun w2 => ?_⟩, fun w => ?_⟩⟩
        · have : sgv a b c k = c := by unfold sgv; rw [if_neg w, if_neg w2]
          rw [this] at h87; exact h87
        · have : sgv a b c k = b := by unfold sgv; rw [if_neg w, if_pos w2]
          rw [this] at h87; exact h87
        · have : sgv a b c k = a := by unfold sgv; rw [if_pos w]
          rw [this] at h87; exact h87
    have ip : (nL (pl S i)).toInt = pl S i := nL_toInt (by omega)
    have := loop (tabs S i) 1 (nL (pl S i)) (looked S) (by omega) (Nat.le_refl _) (by rw [ip]; omega) (by rw [ip]; omega) (by rw [ip]; rfl)
    rw [jsi_id x7] at this
    exact this
end Sub1
