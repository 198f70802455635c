/-! the reference while it lays out: what stays -/
def RS (h : jh) (S : sg) (m : Nat) : Prop := RA h m ∧ ji h 513 m = nI (sN S) ∧ True ∧ ji h 534 m = nI (looks S) ∧ ji h 535 m = nI (looked S) ∧
  (∀ j i, 1 ≤ j → j ≤ 16 → 1 ≤ i → i ≤ 120 → jI h (m + j) i = mV S j i) ∧ (∀ i, 1 ≤ i → i ≤ sN S → jI h (m + 17) i = nI (na S i) - 1) ∧
  (∀ i k, 1 ≤ i → i ≤ 120 → k < rg S i → jI h (m + 18) (8 * i - 8 + k) = rf S k i ∧ jI h (m + 19) (8 * i - 8 + k) = rt S k i) ∧ True
theorem RM.s {h : jh} {S : sg} {m : Nat} (M : RM h S m) : RS h S m := ⟨M.1, M.2.1, trivial, M.2.2.2.1, M.2.2.2.2.1, M.2.2.2.2.2.1, M.2.2.2.2.2.2.1, M.2.2.2.2.2.2.2.1, trivial⟩
section Mod9
variable {g : jg} {h : jh} {S : sg} {m : Nat} {Q : jq}
theorem RS.t (M : RS h S m) : jt h m = 9 := M.1.1
theorem RS.p (M : RS h S m) (j : Nat) (h1 : 1 ≤ j) (h2 : j ≤ 27) : jr h (mK j) m = some (m + j) ∧ jt h (m + j) = mT j ∧ jn h (m + j) = mN j := M.1.2 j h1 h2
theorem RS.many (M : RS h S m) : ji h 513 m = nI (sN S) := M.2.1
theorem RS.row (M : RS h S m) {j i : Nat} (h1 : 1 ≤ j) (h2 : j ≤ 16) (i1 : 1 ≤ i) (i2 : i ≤ 120) : jI h (m + j) i = mV S j i := M.2.2.2.2.2.1 j i h1 h2 i1 i2
theorem RS.alv (M : RS h S m) {i : Nat} (i1 : 1 ≤ i) (i2 : i ≤ 120) : (¬ jr h 514 m = none) ∧ jt h (jd (jr h 514 m)) = 20 ∧ vp_in (nI i) (jn h (jd (jr h 514 m))) ∧ jI h (jd (jr h 514 m)) (nI i).toNatClampNeg = nI (lv S i) := by
  obtain ⟨p1, p2, p3⟩ := M.p 1 (by decide) (by decide)
  have e : jr h 514 m = some (m + 1) := p1
  have n : jn h (m + 1) = 121 := p3
  rw [e, jd_s, n, nI_clamp (by omega)]
  exact ⟨jsn, p2, vp_in_nI (by omega) (by decide), M.row (by decide) (by decide) i1 i2⟩
theorem RS.aus (M : RS h S m) {i : Nat} (i1 : 1 ≤ i) (i2 : i ≤ 120) : (¬ jr h 515 m = none) ∧ jt h (jd (jr h 515 m)) = 20 ∧ vp_in (nI i) (jn h (jd (jr h 515 m))) ∧ jI h (jd (jr h 515 m)) (nI i).toNatClampNeg = nI (us S i) := by
  obtain ⟨p1, p2, p3⟩ := M.p 2 (by decide) (by decide)
  have e : jr h 515 m = some (m + 2) := p1
  have n : jn h (m + 2) = 121 := p3
  rw [e, jd_s, n, nI_clamp (by omega)]
  exact ⟨jsn, p2, vp_in_nI (by omega) (by decide), M.row (by decide) (by decide) i1 i2⟩
theorem RS.adg (M : RS h S m) {i : Nat} (i1 : 1 ≤ i) (i2 : i ≤ 120) : (¬ jr h 516 m = none) ∧ jt h (jd (jr h 516 m)) = 20 ∧ vp_in (nI i) (jn h (jd (jr h 516 m))) ∧ jI h (jd (jr h 516 m)) (nI i).toNatClampNeg = nI (dg S i) := by
  obtain ⟨p1, p2, p3⟩ := M.p 3 (by decide) (by decide)
  have e : jr h 516 m = some (m + 3) := p1
  have n : jn h (m + 3) = 121 := p3
  rw [e, jd_s, n, nI_clamp (by omega)]
  exact ⟨jsn, p2, vp_in_nI (by omega) (by decide), M.row (by decide) (by decide) i1 i2⟩
theorem RS.apa (M : RS h S m) {i : Nat} (i1 : 1 ≤ i) (i2 : i ≤ 120) : (¬ jr h 517 m = none) ∧ jt h (jd (jr h 517 m)) = 20 ∧ vp_in (nI i) (jn h (jd (jr h 517 m))) ∧ jI h (jd (jr h 517 m)) (nI i).toNatClampNeg = nI (pa S i) := by
  obtain ⟨p1, p2, p3⟩ := M.p 4 (by decide) (by decide)
  have e : jr h 517 m = some (m + 4) := p1
  have n : jn h (m + 4) = 121 := p3
  rw [e, jd_s, n, nI_clamp (by omega)]
  exact ⟨jsn, p2, vp_in_nI (by omega) (by decide), M.row (by decide) (by decide) i1 i2⟩
theorem RS.arc (M : RS h S m) {i : Nat} (i1 : 1 ≤ i) (i2 : i ≤ 120) : (¬ jr h 518 m = none) ∧ jt h (jd (jr h 518 m)) = 20 ∧ vp_in (nI i) (jn h (jd (jr h 518 m))) ∧ jI h (jd (jr h 518 m)) (nI i).toNatClampNeg = nI (rc S i) := by
  obtain ⟨p1, p2, p3⟩ := M.p 5 (by decide) (by decide)
  have e : jr h 518 m = some (m + 5) := p1
  have n : jn h (m + 5) = 121 := p3
  rw [e, jd_s, n, nI_clamp (by omega)]
  exact ⟨jsn, p2, vp_in_nI (by omega) (by decide), M.row (by decide) (by decide) i1 i2⟩
theorem RS.atb (M : RS h S m) {i : Nat} (i1 : 1 ≤ i) (i2 : i ≤ 120) : (¬ jr h 519 m = none) ∧ jt h (jd (jr h 519 m)) = 20 ∧ vp_in (nI i) (jn h (jd (jr h 519 m))) ∧ jI h (jd (jr h 519 m)) (nI i).toNatClampNeg = nI (tb S i) := by
  obtain ⟨p1, p2, p3⟩ := M.p 6 (by decide) (by decide)
  have e : jr h 519 m = some (m + 6) := p1
  have n : jn h (m + 6) = 121 := p3
  rw [e, jd_s, n, nI_clamp (by omega)]
  exact ⟨jsn, p2, vp_in_nI (by omega) (by decide), M.row (by decide) (by decide) i1 i2⟩
theorem RS.ale (M : RS h S m) {i : Nat} (i1 : 1 ≤ i) (i2 : i ≤ 120) : (¬ jr h 520 m = none) ∧ jt h (jd (jr h 520 m)) = 20 ∧ vp_in (nI i) (jn h (jd (jr h 520 m))) ∧ jI h (jd (jr h 520 m)) (nI i).toNatClampNeg = nI (le S i) := by
  obtain ⟨p1, p2, p3⟩ := M.p 7 (by decide) (by decide)
  have e : jr h 520 m = some (m + 7) := p1
  have n : jn h (m + 7) = 121 := p3
  rw [e, jd_s, n, nI_clamp (by omega)]
  exact ⟨jsn, p2, vp_in_nI (by omega) (by decide), M.row (by decide) (by decide) i1 i2⟩
theorem RS.amo (M : RS h S m) {i : Nat} (i1 : 1 ≤ i) (i2 : i ≤ 120) : (¬ jr h 521 m = none) ∧ jt h (jd (jr h 521 m)) = 20 ∧ vp_in (nI i) (jn h (jd (jr h 521 m))) ∧ jI h (jd (jr h 521 m)) (nI i).toNatClampNeg = nI (mo S i) := by
  obtain ⟨p1, p2, p3⟩ := M.p 8 (by decide) (by decide)
  have e : jr h 521 m = some (m + 8) := p1
  have n : jn h (m + 8) = 121 := p3
  rw [e, jd_s, n, nI_clamp (by omega)]
  exact ⟨jsn, p2, vp_in_nI (by omega) (by decide), M.row (by decide) (by decide) i1 i2⟩
theorem RS.anw (M : RS h S m) {i : Nat} (i1 : 1 ≤ i) (i2 : i ≤ 120) : (¬ jr h 522 m = none) ∧ jt h (jd (jr h 522 m)) = 20 ∧ vp_in (nI i) (jn h (jd (jr h 522 m))) ∧ jI h (jd (jr h 522 m)) (nI i).toNatClampNeg = nI (nw S i) := by
  obtain ⟨p1, p2, p3⟩ := M.p 9 (by decide) (by decide)
  have e : jr h 522 m = some (m + 9) := p1
  have n : jn h (m + 9) = 121 := p3
  rw [e, jd_s, n, nI_clamp (by omega)]
  exact ⟨jsn, p2, vp_in_nI (by omega) (by decide), M.row (by decide) (by decide) i1 i2⟩
theorem RS.asy (M : RS h S m) {i : Nat} (i1 : 1 ≤ i) (i2 : i ≤ 120) : (¬ jr h 523 m = none) ∧ jt h (jd (jr h 523 m)) = 24 ∧ vp_in (nI i) (jn h (jd (jr h 523 m))) ∧ jI h (jd (jr h 523 m)) (nI i).toNatClampNeg = nI (sy S i) := by
  obtain ⟨p1, p2, p3⟩ := M.p 10 (by decide) (by decide)
  have e : jr h 523 m = some (m + 10) := p1
  have n : jn h (m + 10) = 121 := p3
  rw [e, jd_s, n, nI_clamp (by omega)]
  exact ⟨jsn, p2, vp_in_nI (by omega) (by decide), M.row (by decide) (by decide) i1 i2⟩
theorem RS.ava (M : RS h S m) {i : Nat} (i1 : 1 ≤ i) (i2 : i ≤ 120) : (¬ jr h 524 m = none) ∧ jt h (jd (jr h 524 m)) = 24 ∧ vp_in (nI i) (jn h (jd (jr h 524 m))) ∧ jI h (jd (jr h 524 m)) (nI i).toNatClampNeg = nI (va S i) := by
  obtain ⟨p1, p2, p3⟩ := M.p 11 (by decide) (by decide)
  have e : jr h 524 m = some (m + 11) := p1
  have n : jn h (m + 11) = 121 := p3
  rw [e, jd_s, n, nI_clamp (by omega)]
  exact ⟨jsn, p2, vp_in_nI (by omega) (by decide), M.row (by decide) (by decide) i1 i2⟩
theorem RS.avl (M : RS h S m) {i : Nat} (i1 : 1 ≤ i) (i2 : i ≤ 120) : (¬ jr h 525 m = none) ∧ jt h (jd (jr h 525 m)) = 20 ∧ vp_in (nI i) (jn h (jd (jr h 525 m))) ∧ jI h (jd (jr h 525 m)) (nI i).toNatClampNeg = vl S i := by
  obtain ⟨p1, p2, p3⟩ := M.p 12 (by decide) (by decide)
  have e : jr h 525 m = some (m + 12) := p1
  have n : jn h (m + 12) = 121 := p3
  rw [e, jd_s, n, nI_clamp (by omega)]
  exact ⟨jsn, p2, vp_in_nI (by omega) (by decide), M.row (by decide) (by decide) i1 i2⟩
theorem RS.arg (M : RS h S m) {i : Nat} (i1 : 1 ≤ i) (i2 : i ≤ 120) : (¬ jr h 526 m = none) ∧ jt h (jd (jr h 526 m)) = 20 ∧ vp_in (nI i) (jn h (jd (jr h 526 m))) ∧ jI h (jd (jr h 526 m)) (nI i).toNatClampNeg = nI (rg S i) := by
  obtain ⟨p1, p2, p3⟩ := M.p 13 (by decide) (by decide)
  have e : jr h 526 m = some (m + 13) := p1
  have n : jn h (m + 13) = 121 := p3
  rw [e, jd_s, n, nI_clamp (by omega)]
  exact ⟨jsn, p2, vp_in_nI (by omega) (by decide), M.row (by decide) (by decide) i1 i2⟩
theorem RS.arn (M : RS h S m) {i : Nat} (i1 : 1 ≤ i) (i2 : i ≤ 120) : (¬ jr h 527 m = none) ∧ jt h (jd (jr h 527 m)) = 20 ∧ vp_in (nI i) (jn h (jd (jr h 527 m))) ∧ jI h (jd (jr h 527 m)) (nI i).toNatClampNeg = nI (rn S i) := by
  obtain ⟨p1, p2, p3⟩ := M.p 14 (by decide) (by decide)
  have e : jr h 527 m = some (m + 14) := p1
  have n : jn h (m + 14) = 121 := p3
  rw [e, jd_s, n, nI_clamp (by omega)]
  exact ⟨jsn, p2, vp_in_nI (by omega) (by decide), M.row (by decide) (by decide) i1 i2⟩
theorem RS.arm (M : RS h S m) {i : Nat} (i1 : 1 ≤ i) (i2 : i ≤ 120) : (¬ jr h 528 m = none) ∧ jt h (jd (jr h 528 m)) = 20 ∧ vp_in (nI i) (jn h (jd (jr h 528 m))) ∧ jI h (jd (jr h 528 m)) (nI i).toNatClampNeg = nI (rm S i) := by
  obtain ⟨p1, p2, p3⟩ := M.p 15 (by decide) (by decide)
  have e : jr h 528 m = some (m + 15) := p1
  have n : jn h (m + 15) = 121 := p3
  rw [e, jd_s, n, nI_clamp (by omega)]
  exact ⟨jsn, p2, vp_in_nI (by omega) (by decide), M.row (by decide) (by decide) i1 i2⟩
theorem RS.aot (M : RS h S m) {i : Nat} (i1 : 1 ≤ i) (i2 : i ≤ 120) : (¬ jr h 529 m = none) ∧ jt h (jd (jr h 529 m)) = 20 ∧ vp_in (nI i) (jn h (jd (jr h 529 m))) ∧ jI h (jd (jr h 529 m)) (nI i).toNatClampNeg = nI (ot S i) := by
  obtain ⟨p1, p2, p3⟩ := M.p 16 (by decide) (by decide)
  have e : jr h 529 m = some (m + 16) := p1
  have n : jn h (m + 16) = 121 := p3
  rw [e, jd_s, n, nI_clamp (by omega)]
  exact ⟨jsn, p2, vp_in_nI (by omega) (by decide), M.row (by decide) (by decide) i1 i2⟩
theorem RS.ana (M : RS h S m) {i : Nat} (i1 : 1 ≤ i) (i2 : i ≤ sN S) (hN : sN S ≤ 120) : (¬ jr h 530 m = none) ∧ jt h (jd (jr h 530 m)) = 20 ∧ vp_in (nI i) (jn h (jd (jr h 530 m))) ∧ jI h (jd (jr h 530 m)) (nI i).toNatClampNeg = nI (na S i) - 1 := by
  obtain ⟨p1, p2, p3⟩ := M.p 17 (by decide) (by decide)
  have e : jr h 530 m = some (m + 17) := p1
  have n : jn h (m + 17) = 121 := p3
  rw [e, jd_s, n, nI_clamp (by omega)]
  exact ⟨jsn, p2, vp_in_nI (by omega) (by decide), M.2.2.2.2.2.2.1 i i1 i2⟩
theorem s_is (M : RS h S m) (hN : sN S ≤ 120) {x : Int32} (hQ : Q (.inl (some (.inl (jb (decide (¬ fnd S x = 0)))))) h) : jM g mX10_is [.inr (.inr (some m)), .inl x] h 0 0 Q := by
  have h1 := jq_t hQ
  have h0 := jq_f hQ
  refine eX10_is ?_
  unfold VX10_is_0
  rw [M.many]
  have e : fnd S x = if x < 1 ∨ nI (sN S) < x then 0 else x.toNatClampNeg := rfl
  refine ⟨fun c => h0 (decide_eq_false (fun q => q (by rw [e, if_pos (Or.inl c)]))), fun c => ⟨M.t, fun c2 => h0 (decide_eq_false (fun q => q (by rw [e, if_pos (Or.inr c2)]))), fun c2 => h1 (decide_eq_true (fun q => ?_))⟩⟩
  rw [e, if_neg (fun w => by rcases w with w | w; exact c w; exact c2 w)] at q
  rw [Int32.lt_iff_toInt_lt, show (1 : Int32).toInt = 1 from rfl] at c
  unfold Int32.toNatClampNeg at q
  omega
theorem s_lies (M : RS h S m) (F : WF S) {i : Nat} (i1 : 1 ≤ i) (i2 : i ≤ 120) (hQ : Q (.inl (some (.inl (jb (lies S i))))) h) : jM g mX10_lies [.inr (.inr (some m)), .inl (nI i)] h 0 0 Q := by
  have h1 := jq_t hQ
  have h0 := jq_f hQ
  obtain ⟨a1, a2, a3, a4⟩ := M.alv i1 i2
  have hl := F.lv i
  refine eX10_lies ⟨M.t, a1, a2, a3, ?_⟩
  rw [a4]
  have e1 : nI (lv S i) < 50 ↔ lv S i < 50 := nI_ltI (b := 50) (by omega) (by decide)
  have e2 : nI (lv S i) = 77 ↔ lv S i = 77 := nI_eq (b := 77) (by omega) (by decide)
  rw [e1, e2]
  refine ⟨fun c => h1 (lies_mk (Or.inl c)), fun c => ⟨fun c2 => h0 ?_, fun c2 => h1 (lies_mk (Or.inr c2))⟩⟩
  cases q : lies S i with
  | false => rfl
  | true => have := lies_of q; omega
theorem s_below (M : RS h S m) (W : WA S) {i j : Nat} (i1 : 1 ≤ i) (i2 : i ≤ sN S) (hl : lies S i = true) (hj : 1 ≤ j) (hj2 : j ≤ 120) (hQ : Q (.inl (some (.inl (jb (bel S i j))))) h) : jM g mX10_isBelow [.inr (.inr (some m)), .inl (nI i), .inl (nI j)] h 0 0 Q := by
  have h1 := jq_t hQ
  have h0 := jq_f hQ
  have F := W.1
  have A := W.2.1
  have B := W.2.2.1
  have WBh := WB_of F A B
  have hN := F.1
  have loop : ∀ c, c ≤ sN S → (c = 0 ∨ lies S c = true) → onc S c j = bel S i j → jG g mX10_isBelow 7 [(0, .inr (.inr (some m))), (2, .inl (nI j)), (3, .inl (nI c))] [] h 0 0 Q := by
    intro c
    induction c using Nat.strongRecOn with
    | _ c ih =>
      intro hc hlc eq
      refine vX10_isBelow_7 ?_
      unfold VX10_isBelow_7
      have z0 : nI c ≤ 0 ↔ c = 0 := by rw [Int32.le_iff_toInt_le, nI_toInt (by omega), show (0 : Int32).toInt = 0 from rfl]; omega
      rw [z0, nI_eq (by omega) (by omega)]
      refine ⟨fun q => ⟨fun _ => h0 (by rw [← eq, q]; rfl), fun q2 => by omega⟩, fun q => ⟨fun q2 => ⟨fun q3 => absurd q2 q3, fun _ => h1 (by rw [← eq, q2]; exact onc_self WBh.p (by omega))⟩, fun q2 => ?_⟩⟩
      obtain ⟨a1, a2, a3, a4⟩ := M.apa (i := c) (by omega) (by omega)
      have lc := hlc.resolve_left q
      refine ⟨M.t, a1, a2, a3, ?_⟩
      rw [a4, pa_cpa A (by omega) hc lc]
      have p := WBh.p c (by omega)
      refine ih _ p (by omega) ?_ ?_
      · by_cases z : cpa S c = 0
        · exact Or.inl z
        · exact Or.inr (WBh.ch (by omega) hc lc z).1
      · rw [← eq, onc_step (x := c) WBh.p (by omega), decide_eq_false q2]; rfl
  obtain ⟨a1, a2, a3, a4⟩ := M.apa i1 (by omega)
  refine eX10_isBelow ⟨M.t, a1, a2, a3, ?_⟩
  rw [a4, pa_cpa A i1 i2 hl]
  have p := WBh.p i (by omega)
  refine loop _ (by omega) ?_ rfl
  by_cases z : cpa S i = 0
  · exact Or.inl z
  · exact Or.inr (WBh.ch i1 i2 hl z).1
theorem s_aside (M : RS h S m) (W : WA S) {i : Nat} (i1 : 1 ≤ i) (i2 : i ≤ sN S) (hl : lies S i = true) (hQ : Q (.inl (some (.inl (jb (aside S i))))) h) : jM g mX10_isAside [.inr (.inr (some m)), .inl (nI i)] h 0 0 Q := by
  have h1 := jq_t hQ
  have h0 := jq_f hQ
  have hN := W.n
  have hp := W.wb.p
  have loop : ∀ c, c ≤ sN S → (c = 0 ∨ lies S c = true) → aside S c = aside S i → jG g mX10_isAside 2 [(0, .inr (.inr (some m))), (2, .inl (nI c))] [] h 0 0 Q := by
    intro c
    induction c using Nat.strongRecOn with
    | _ c ih =>
      intro hc hlc eq
      refine vX10_isAside_2 ?_
      unfold VX10_isAside_2
      rw [le0 (by omega)]
      refine ⟨fun q => ⟨fun _ => h0 (by rw [← eq, q]; rfl), fun q2 => absurd q q2⟩, fun q => ?_⟩
      obtain ⟨a1, a2, a3, a4⟩ := M.aot (i := c) (by omega) (by omega)
      obtain ⟨b1, b2, b3, b4⟩ := M.apa (i := c) (by omega) (by omega)
      obtain ⟨x1, x2, x3⟩ := W.nx q hc hlc
      have wo : ot S c < c ∨ ot S c = 0 := W.1.2.2.2.2.2.2.2.2.2.2.2.2.1 c
      have z : nI (ot S c) = 0 ↔ ot S c = 0 := nI_eq (b := 0) (by omega) (by decide)
      have es : aside S c = (decide (ot S c ≠ 0) || aside S (cpa S c)) := chk_step hp (by omega)
      refine ⟨M.t, a1, a2, a3, ?_⟩
      rw [a4, b4, z, x1]
      refine ⟨fun q2 => ⟨fun q3 => absurd q3 q, fun _ => h1 ?_⟩, fun q2 => ⟨b1, b2, b3, ih _ x2 (by omega) x3 ?_⟩⟩
      · rw [← eq, es, decide_eq_true q2]; rfl
      · rw [← eq, es, decide_eq_false (fun w => w q2)]; rfl
  exact eX10_isAside (loop i i2 (Or.inr hl) rfl)
theorem s_tabs (M : RS h S m) (W : WA S) {i t : Nat} (i2 : i ≤ sN S) (hl : i = 0 ∨ lies S i = true) (ht : t = 0 ∨ onc S i t = true) (hQ : Q (.inl (some (.inl (nI (tabs S i - tabs S t))))) h) : jM g mX10_tablesUp [.inr (.inr (some m)), .inl (nI i), .inl (nI t)] h 0 0 Q := by
  have hN := W.n
  have hp := W.wb.p
  have h3 := W.wb.tab
  have mono : ∀ c, onc S c t = true → tabs S t ≤ tabs S c := by
    intro c
    induction c using Nat.strongRecOn with
    | _ c ih =>
      intro q
      have le := onc_le hp _ _ q
      rcases onc_or hp q with e | e
      · rw [e]; exact Nat.le_refl _
      · have := ih _ (hp c (by omega)) e
        have := tabs_step hp (j := c) (by omega)
        omega
  have t0 : tabs S 0 = 0 := rfl
  have htN : t ≤ sN S := by
    rcases ht with q | q
    · omega
    · have := onc_le hp _ _ q; omega
  have loop : ∀ c acc, c ≤ sN S → (c = 0 ∨ lies S c = true) → (t = 0 ∨ onc S c t = true) → acc + (tabs S c - tabs S t) = tabs S i - tabs S t → jG g mX10_tablesUp 5 [(0, .inr (.inr (some m))), (2, .inl (nI t)), (3, .inl (nI acc)), (4, .inl (nI c))] [] h 0 0 Q := by
    intro c
    induction c using Nat.strongRecOn with
    | _ c ih =>
      intro acc hc hlc hct eq
      refine vX10_tablesUp_5 ?_
      unfold VX10_tablesUp_5
      rw [le0 (by omega), nI_eq (by omega) (by omega)]
      have done : (c = 0 ∨ c = t) → Q (.inl (some (.inl (nI acc)))) h := fun q => by
        have : acc = tabs S i - tabs S t := by
          rcases q with q | q
          · rw [q, t0] at eq; omega
          · rw [q] at eq; omega
        rw [this]; exact hQ
      refine ⟨fun q => done (Or.inl q), fun q => ⟨fun q2 => done (Or.inr q2), fun q2 => ?_⟩⟩
      obtain ⟨a1, a2, a3, a4⟩ := M.atb (i := c) (by omega) (by omega)
      obtain ⟨b1, b2, b3, b4⟩ := M.apa (i := c) (by omega) (by omega)
      obtain ⟨x1, x2, x3⟩ := W.nx q hc hlc
      have wt := W.1.2.2.2.2.2.1 c
      have ts := tabs_step hp (j := c) (by omega)
      have nt : t = 0 ∨ onc S (cpa S c) t = true := by
        rcases hct with w | w
        · exact Or.inl w
        · rcases onc_or hp w with e | e
          · omega
          · exact Or.inr e
      have mn : tabs S t ≤ tabs S (cpa S c) := by
        rcases nt with w | w
        · rw [w, t0]; exact Nat.zero_le _
        · exact mono _ w
      refine ⟨M.t, a1, a2, a3, ?_⟩
      rw [a4, le0 (by omega)]
      refine ⟨fun q3 => ⟨M.t, b1, b2, b3, ?_⟩, fun q3 => ⟨M.t, b1, b2, b3, ?_⟩⟩
      · rw [b4, x1, show (0 : Int32) = nI 0 from rfl, nI_add]
        rw [if_neg (by omega)] at ts
        exact ih _ x2 _ (by omega) x3 nt (by omega)
      · rw [b4, x1, show (1 : Int32) = nI 1 from rfl, nI_add]
        rw [if_pos q3] at ts
        exact ih _ x2 _ (by omega) x3 nt (by omega)
  exact eX10_tablesUp (loop i 0 i2 hl ht (by omega))
end Mod9
