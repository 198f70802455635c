/-! the reference writes bytes -/
theorem FA.ml {m : Nat} {h h' : jh} (F : FA (m + 20) h h') : FMl m h h' := by
  obtain ⟨a1, a2, a3, a4, a5, a6, a7, a8, a9⟩ := F
  refine ⟨⟨a1, a2, a3, fun k c _ => ⟨by rw [a4], by rw [a5]⟩, a6, fun c hc => ⟨a9 c (by omega), by rw [a7]⟩, a8⟩, fun k _ _ _ => by rw [a4], fun j hj => a9 (m + j) (by omega)⟩
theorem wr_all {p n : Nat} {f A : Nat → Int32} : wr p n n f A = A := by
  funext k
  unfold wr
  rw [if_neg (by omega)]
theorem pk_half : ∀ lo, lo < 16 → ∀ hi, hi < 16 → b8 (b8 ((b8 (b8 (nI lo)) &&& 15) ||| (nI hi <<< ((4 : Int32) &&& 31)))) = b8 (nI (hi * 16 + lo)) := by decide +kernel
theorem dg_64 : ∀ d, d < 10 → b8 (b8 (b8 (nI (48 + d + 0)) + 64)) = b8 (nI (48 + d + 64)) := by decide +kernel
theorem rem2 {k : Nat} (h : k < 2 ^ 31) : nI k - nI k / 2 * 2 = nI (k % 2) := by
  have e : nI k / 2 = nI (k / 2) := pk_div (d := 2) h (by decide) (by decide)
  rw [e, show (2 : Int32) = nI 2 from rfl, pk_mul, pk_sub (by omega)]
  congr 1; omega
section ModF
variable {g : jg} {h h' h1 : jh} {S : sg} {m : Nat} {Q : jq}
theorem RS.k20 (R : RS h S m) : jr h 538 m = some (m + 20) ∧ jt h (m + 20) = 21 ∧ jn h (m + 20) = 20000 := R.p 20 (by decide) (by decide)
theorem RS.fa (R : RS h S m) (F : FA (m + 20) h h') : RS h' S m := R.fl F.ml
/-- one byte written -/
theorem s_put (R : RS h S m) {k : Nat} {v : Int32} {P : jh → Prop} (hk : k < 20000) (hP : ∀ h', FA (m + 20) h h' → jI h' (m + 20) = wr1 (jI h (m + 20)) k v → P h') : (¬ (jr h 538 m) = none) ∧ (jt h (jd (jr h 538 m)) = 21) ∧ (vp_in (nI k) (jn h (jd (jr h 538 m)))) ∧ ∀ h2 : jh, h2 = jsI h (jd (jr h 538 m)) (nI k : Int32).toNatClampNeg v → P h2 := by
  obtain ⟨k1, k2, k3⟩ := R.k20
  rw [k1, jd_s, k3, nI_clamp (by omega)]
  refine ⟨jsn, k2, vp_in_nI (by omega) (by decide), fun h2 e => hP h2 (FA.sI e) ?_⟩
  funext x
  rw [e, jI_sI]
  unfold wr1
  by_cases q : x = k
  · rw [if_pos ⟨rfl, q⟩, if_pos q]
  · rw [if_neg (fun z => q z.2), if_neg q]
/-- what it does to the bytes -/
def wri (S : sg) (i p : Nat) (A : Nat → Int32) : Nat → Int32 := if 9 ≤ us S i then A else wr p 0 (byi S i) (ibt S i) A
theorem s_fill60 (R : RS h S m) {p n : Nat} {x : Int64} (hp : p + n ≤ 20000) (hQ : ∀ h', FA (m + 20) h h' → jI h' (m + 20) = wr p 0 n (bin1 n x) (jI h (m + 20)) → Q (.inl none) h') : jG g mX10_fill 60 [(0, .inr (.inr (some m))), (2, .inl (nI p)), (4, .inr (.inl x)), (7, .inl (nI n - 1))] [] h 0 0 Q := by
  have loop : ∀ k (h1 : jh), k ≤ n → FA (m + 20) h h1 → jI h1 (m + 20) = wr p k n (bin1 n x) (jI h (m + 20)) → jG g mX10_fill 60 [(0, .inr (.inr (some m))), (2, .inl (nI p)), (4, .inr (.inl (shF (n - k) x))), (7, .inl (nI k - 1))] [] h1 0 0 Q := by
    intro k
    induction k with
    | zero =>
      intro h1 _ F1 e1
      exact vX10_fill_60 ⟨fun _ => hQ h1 F1 e1, fun c => absurd (by decide) c⟩
    | succ k ih =>
      intro h1 hk F1 e1
      have R1 := R.fa F1
      rw [nI_pred]
      refine vX10_fill_60 ⟨fun c => absurd c (nI_pos (by omega)), fun _ => ⟨R1.t, ?_⟩⟩
      rw [nI_add, subm1]
      refine s_put R1 (k := p + k) (by omega) (fun h2 F2 e2 => ?_)
      have a1 : shF (n - k) x = sh8 (shF (n - (k + 1)) x) := by
        have : n - k = (n - (k + 1)) + 1 := by omega
        rw [this]; rfl
      have a2 : (((shF (n - (k + 1)) x).toInt32).toInt8.toInt32).toInt8.toInt32 = bin1 n x k := by
        refine (b8_b8 _).trans ?_
        unfold bin1
        congr 3; omega
      have := ih h2 (by omega) (F1.trans F2) (by
        rw [e2, a2, e1]
        funext j
        exact wr_step (by omega) j)
      rw [a1] at this
      exact this
  have := loop n h (Nat.le_refl _) FA.rf wr_all.symm
  rw [Nat.sub_self] at this
  exact this
theorem s_fill186 (R : RS h S m) {p n a s : Nat} {x6 : Int32} (ha : a ≤ 2 ^ 31) (hs : s = if x6 = 0 then 12 else 13) (hp : p + n ≤ 20000) (hQ : ∀ h', FA (m + 20) h h' → jI h' (m + 20) = wr p 0 n (pak1 n a s) (jI h (m + 20)) → Q (.inl none) h') : jG g mX10_fill 186 [(0, .inr (.inr (some m))), (2, .inl (nI p)), (3, .inl (nI n)), (4, .inr (.inl (nL a))), (6, .inl x6), (7, .inl ((2 * nI n) - 1))] [] h 0 0 Q := by
  have hd : ∀ j, a / 10 ^ j < 2 ^ 63 := fun j => by have := Nat.div_le_self a (10 ^ j); omega
  have s16 : s < 16 := by rw [hs]; split <;> decide
  have en : (2 : Int32) * nI n = nI (2 * n) := pk_mul 2 n
  have loop : ∀ k (h1 : jh), k ≤ n → FA (m + 20) h h1 → jI h1 (m + 20) = wr p k n (pak1 n a s) (jI h (m + 20)) → jG g mX10_fill 186 [(0, .inr (.inr (some m))), (2, .inl (nI p)), (3, .inl (nI n)), (4, .inr (.inl (nL (a / 10 ^ (2 * (n - k) - 1))))), (6, .inl x6), (7, .inl (nI (2 * k) - 1))] [] h1 0 0 Q := by
    intro k
    induction k with
    | zero =>
      intro h1 _ F1 e1
      exact vX10_fill_186 ⟨fun _ => hQ h1 F1 e1, fun c => absurd (by decide) c⟩
    | succ k ih =>
      intro h1 hk F1 e1
      have R1 := R.fa F1
      have r1 : nI (2 * k + 1) - nI (2 * k + 1) / 2 * 2 = 1 := by rw [rem2 (by omega), show (2 * k + 1) % 2 = 1 by omega]; rfl
      have r0 : nI (2 * k) - nI (2 * k) / 2 * 2 = 0 := by rw [rem2 (by omega), show (2 * k) % 2 = 0 by omega]; rfl
      have d1 : nI (2 * k + 1) / 2 = nI k := by
        have : nI (2 * k + 1) / 2 = nI ((2 * k + 1) / 2) := pk_div (d := 2) (by omega) (by decide) (by decide)
        rw [this, show (2 * k + 1) / 2 = k by omega]
      have d0 : nI (2 * k) / 2 = nI k := by
        have : nI (2 * k) / 2 = nI ((2 * k) / 2) := pk_div (d := 2) (by omega) (by decide) (by decide)
        rw [this, show (2 * k) / 2 = k by omega]
      have ne : ¬ nI (2 * k) = (2 * nI n) - 1 := by
        rw [en, show (1 : Int32) = nI 1 from rfl, pk_sub (by omega), nI_eq (by omega) (by omega)]; omega
      have eqn : nI (2 * k + 1) = (2 * nI n) - 1 ↔ k + 1 = n := by
        rw [en, show (1 : Int32) = nI 1 from rfl, pk_sub (by omega), nI_eq (by omega) (by omega)]; omega
      -- the higher half
      have hi : ∀ (h2 : jh) (lo : Nat), lo < 16 → lo = (if n - 1 - k = 0 then s else dgt a (2 * (n - 1 - k) - 1)) → FA (m + 20) h1 h2 → jI h2 (m + 20) = wr1 (jI h1 (m + 20)) (p + k) (b8 (b8 (nI lo))) → jG g mX10_fill 186 [(0, .inr (.inr (some m))), (2, .inl (nI p)), (3, .inl (nI n)), (4, .inr (.inl (nL (a / 10 ^ (2 * (n - 1 - k)))))), (6, .inl x6), (7, .inl (nI (2 * k + 1) + (-1)))] [] h2 0 0 Q := by
        intro h2 lo hlo elo F2 e2
        have R2 := R1.fa F2
        rw [subm1, nI_pred]
        refine vX10_fill_186 ⟨fun c => absurd c (nI_pos (by omega)), fun _ => ⟨fun _ => ?_, fun c => absurd c ne⟩⟩
        refine ⟨fun _ => ?_, fun c => absurd c ne⟩
        refine ⟨R2.t, fun _ => ?_, fun c => absurd (r0.symm.trans c) (by decide)⟩
        rw [d0, nI_add, nI_clamp (n := p + k) (by omega)]
        obtain ⟨k1, k2, k3⟩ := R2.k20
        have z := s_put (P := fun h3 => jG g mX10_fill 186 [(0, .inr (.inr (some m))), (2, .inl (nI p)), (3, .inl (nI n)), (4, .inr (.inl (nL (a / 10 ^ (2 * (n - 1 - k))) / 10))), (6, .inl x6), (7, .inl (nI (2 * k) + (-1)))] [] h3 0 0 Q) (v := b8 (b8 ((jI h2 (m + 20) (p + k) &&& 15) ||| ((nL (a / 10 ^ (2 * (n - 1 - k))) - nL (a / 10 ^ (2 * (n - 1 - k))) / 10 * 10).toInt32 <<< ((4 : Int32) &&& 31))))) R2 (k := p + k) (by omega) (fun h3 F3 e3 => by
          rw [div10 (hd _), dv1, subm1]
          rw [rem10 (hd _), toInt32_nL] at e3
          have q1 : 2 * (n - 1 - k) + 1 = 2 * (n - k) - 1 := by omega
          rw [q1]
          refine ih h3 (by omega) (F1.trans (F2.trans F3)) ?_
          rw [e3, e2, e1]
          funext j
          rw [← wr_step (by omega)]
          have q2 : wr1 (wr p (k + 1) n (pak1 n a s) (jI h (m + 20))) (p + k) (b8 (b8 (nI lo))) (p + k) = b8 (b8 (nI lo)) := by unfold wr1; rw [if_pos rfl]
          rw [q2, pk_half lo hlo _ (by have := Nat.mod_lt (a / 10 ^ (2 * (n - 1 - k))) (show 10 > 0 by decide); omega)]
          unfold wr1
          by_cases q : j = p + k
          · rw [if_pos q, if_pos q]
            unfold pak1 dgt
            rw [elo]; rfl
          · rw [if_neg q, if_neg q, if_neg q])
        rw [k1, jd_s, nI_clamp (n := p + k) (by omega)] at z
        rw [k1, jd_s]
        exact z
      have q0 : nI (2 * (k + 1)) - 1 = nI (2 * k + 1) := by rw [show 2 * (k + 1) = (2 * k + 1) + 1 by omega, nI_pred]
      have lowr : ∀ (lo : Nat) (y : Int64), lo < 16 → lo = (if n - 1 - k = 0 then s else dgt a (2 * (n - 1 - k) - 1)) → y = nL (a / 10 ^ (2 * (n - 1 - k))) → VX10_fill_246 g m (nI p) (nI n) x6 (nI (2 * k + 1)) (nI lo) y h1 0 0 Q := by
        intro lo y hlo elo ey
        refine ⟨R1.t, fun c => absurd r1 c, fun _ => ?_⟩
        rw [d1, nI_add, ey]
        exact s_put R1 (k := p + k) (by omega) (fun h2 F2 e2 => hi h2 lo hlo elo F2 e2)
      rw [q0]
      refine vX10_fill_186 ⟨fun c => absurd c (nI_pos (by omega)), fun _ => ⟨fun c => ?_, fun c => ?_⟩⟩
      · have c' := mt eqn.mpr c
        rw [rem10 (hd _), toInt32_nL]
        refine ⟨fun _ => lowr _ _ (by have := Nat.mod_lt (a / 10 ^ (2 * (n - (k + 1)) - 1)) (show 10 > 0 by decide); omega) ?_ ?_, fun c2 => absurd c2 c⟩
        · rw [if_neg (by omega)]
          unfold dgt
          congr 3; omega
        · rw [div10 (hd _), dv1]
          congr 3; omega
      · have c' := eqn.mp c
        have e0 : nL (a / 10 ^ (2 * (n - (k + 1)) - 1)) = nL (a / 10 ^ (2 * (n - 1 - k))) := by
          congr 3; omega
        refine ⟨fun c6 => ⟨fun c2 => absurd c c2, fun _ => lowr 12 _ (by decide) ?_ e0⟩, fun c6 => ⟨fun c2 => absurd c c2, fun _ => lowr 13 _ (by decide) ?_ e0⟩⟩
        · rw [if_pos (by omega), hs, if_pos c6]
        · rw [if_pos (by omega), hs, if_neg c6]
  have := loop n h (Nat.le_refl _) FA.rf wr_all.symm
  rw [Nat.sub_self, show 2 * 0 - 1 = 0 from rfl, Nat.pow_zero, Nat.div_one, ← en] at this
  exact this
theorem s_fill410 (R : RS h S m) (F : WF S) {i p q o n a : Nat} {x6 : Int32} {A : Nat → Int32} (i1 : 1 ≤ i) (i2 : i ≤ sN S) (hu : 3 ≤ us S i ∧ us S i ≤ 6) (hd : 1 ≤ dg S i) (en : n = byi S i) (ea : a = nab (vl S i)) (e6 : x6 = 0 ↔ ¬ (vl S i).toInt < 0) (eq : q = if us S i = 5 then p + 1 else p) (eo : o = if us S i = 3 ∨ us S i = 6 then n - 1 else 0) (hp : p + n ≤ 20000) (hA : jI h (m + 20) = wr q 0 (dg S i) (dig1 (dg S i) a 0 0) A) (hQ : ∀ h', FA (m + 20) h h' → jI h' (m + 20) = wr p 0 n (ibt S i) A → Q (.inl none) h') : VX10_fill_410 g m (nI i) (nI p) x6 (nI o) h 0 0 Q := by
  have hN := F.1
  obtain ⟨a1, a2, a3, a4⟩ := R.aus i1 (by omega)
  have le4 : nI (us S i) ≤ 4 ↔ us S i ≤ 4 := nI_leI (b := 4) (by omega) (by decide)
  have by' : n = if us S i = 5 ∨ us S i = 6 then dg S i + 1 else dg S i := by
    rw [en]
    unfold byi byts
    by_cases c : us S i = 5 ∨ us S i = 6
    · rw [if_neg (by omega), if_neg (by omega), if_pos c, if_pos c]
    · rw [if_pos (by omega), if_neg c]
  have on : o < n := by
    rw [eo, by']
    by_cases c : us S i = 3 ∨ us S i = 6
    · rw [if_pos c]; split <;> omega
    · rw [if_neg c]; split <;> omega
  have dd : ∀ j, dig1 (dg S i) a 0 0 j = b8 (nI (48 + dgt a (dg S i - 1 - j) + 0)) := fun j => by unfold dig1; rw [ite_self]
  have dl : ∀ j, dgt a j < 10 := fun j => Nat.mod_lt _ (by decide)
  refine ⟨R.t, a1, a2, a3, ?_⟩
  rw [a4, le4, e6, nI_add]
  refine ⟨fun c4 => ⟨fun c => ?_, fun c => ?_⟩, fun c4 => ⟨fun c => ?_, fun c => ?_⟩⟩
  · refine hQ h FA.rf ?_
    rw [hA, eq, if_neg (by omega)]
    rw [if_neg (by omega)] at by'
    funext k
    unfold wr
    rw [by']
    by_cases z : p + 0 ≤ k ∧ k < p + dg S i
    · rw [if_pos z, if_pos z]
      by_cases c3 : us S i = 3
      · rw [ibt_3 c3, if_neg c, ← ea]; unfold dig1; rw [ite_self, ite_self]
      · rw [ibt_4 (by omega), if_neg c, ← ea]
    · rw [if_neg z, if_neg z]
  · obtain ⟨k1, k2, k3⟩ := R.k20
    have z := s_put (P := fun h3 => Q (.inl none) h3) (v := b8 (b8 (jI h (m + 20) (p + o) + 64))) R (k := p + o) (by omega) (fun h3 F3 e3 => by
      refine hQ h3 F3 ?_
      rw [e3, hA, eq, if_neg (by omega)]
      rw [if_neg (by omega)] at by'
      have oo : o < dg S i := by omega
      have w : wr p 0 (dg S i) (dig1 (dg S i) a 0 0) A (p + o) = dig1 (dg S i) a 0 0 o := by
        unfold wr
        rw [if_pos (by omega), Nat.add_sub_cancel_left]
      rw [w, dd, dg_64 _ (dl _)]
      have ib : ∀ j, j < dg S i → ibt S i j = b8 (nI (48 + dgt a (dg S i - 1 - j) + if j = o then 64 else 0)) := by
        intro j hj
        by_cases c3 : us S i = 3
        · rw [if_pos (Or.inl c3)] at eo
          rw [ibt_3 c3, if_pos (Decidable.not_not.mp c), ← ea, eo, by']; rfl
        · rw [if_neg (by omega)] at eo
          rw [ibt_4 (by omega), if_pos (Decidable.not_not.mp c), ← ea, eo]; rfl
      funext k
      unfold wr1 wr
      rw [by']
      by_cases z : k = p + o
      · rw [if_pos z, if_pos (by omega), z, Nat.add_sub_cancel_left, ib o oo, if_pos rfl]
      · rw [if_neg z]
        by_cases z2 : p + 0 ≤ k ∧ k < p + dg S i
        · rw [if_pos z2, if_pos z2, dd, ib _ (by omega), if_neg (by omega)]
        · rw [if_neg z2, if_neg z2])
    rw [k1, jd_s, nI_clamp (n := p + o) (by omega)] at z
    rw [k1, jd_s, nI_clamp (n := p + o) (by omega)]
    exact z
  all_goals
    have hs : ∃ v : Int32, v = (if (vl S i).toInt < 0 then 45 else 43) ∧ b8 (b8 v) = v := ⟨_, rfl, by split <;> decide⟩
    obtain ⟨v, ev, bv'⟩ := hs
    have fin : ∀ h3, FA (m + 20) h h3 → jI h3 (m + 20) = wr1 (jI h (m + 20)) (p + o) v → Q (.inl none) h3 := by
      intro h3 F3 e3
      refine hQ h3 F3 ?_
      rw [e3, hA]
      funext k
      unfold wr1 wr
      rw [if_pos (by omega)] at by'
      rw [by']
      by_cases c5 : us S i = 5
      · rw [if_pos c5] at eq
        rw [if_neg (by omega)] at eo
        rw [eq, eo]
        by_cases z : k = p + 0
        · rw [if_pos z, if_pos (by omega), z, Nat.add_sub_cancel_left, ibt_5 c5, if_pos rfl, ev]
        · rw [if_neg z]
          by_cases z2 : p + 1 + 0 ≤ k ∧ k < p + 1 + dg S i
          · rw [if_pos z2, if_pos (by omega), ibt_5 c5, if_neg (by omega), ea]
            congr 1
          · rw [if_neg z2, if_neg (by omega)]
      · have c6 : us S i = 6 := by omega
        rw [if_neg c5] at eq
        rw [if_pos (Or.inr c6)] at eo
        have eo' : o = dg S i := by omega
        rw [eq, eo']
        by_cases z : k = p + dg S i
        · rw [if_pos z, if_pos (by omega), z, Nat.add_sub_cancel_left, ibt_6 c6, if_pos rfl, ev]
        · rw [if_neg z]
          by_cases z2 : p + 0 ≤ k ∧ k < p + dg S i
          · rw [if_pos z2, if_pos (by omega), ibt_6 c6, if_neg (by omega), ea]
          · rw [if_neg z2, if_neg (by omega)]
  · rw [if_neg c] at ev
    subst ev
    exact s_put R (k := p + o) (by omega) fin
  · rw [if_pos (Decidable.not_not.mp c)] at ev
    subst ev
    exact s_put R (k := p + o) (by omega) fin
end ModF
