/-! the reference: chains, tables -/
section Mod2
variable {g : jg} {h : jh} {S : sg} {m : Nat} {Q : jq}
theorem WA.wb (W : WA S) : WB S (gU S) := WB_of W.1 W.2.1 W.2.2.1
theorem WA.n (W : WA S) : sN S ≤ 120 := W.1.1
theorem le0 {c : Nat} (h : c < 2 ^ 31) : nI c ≤ 0 ↔ c = 0 := by
  rw [Int32.le_iff_toInt_le, nI_toInt h, show (0 : Int32).toInt = 0 from rfl]; omega
/-- the next on a chain -/
theorem WA.nx (W : WA S) {c : Nat} (h0 : ¬ c = 0) (hc : c ≤ sN S) (hl : c = 0 ∨ lies S c = true) : pa S c = cpa S c ∧ cpa S c < c ∧ (cpa S c = 0 ∨ lies S (cpa S c) = true) := by
  have lc := hl.resolve_left h0
  refine ⟨pa_cpa W.2.1 (by omega) hc lc, W.wb.p c (by omega), ?_⟩
  by_cases z : cpa S c = 0
  · exact Or.inl z
  · exact Or.inr (W.wb.ch (by omega) hc lc z).1
theorem rd_iff (B : WS2 S) {i : Nat} (h1 : 1 ≤ i) : (∃ k, 1 ≤ k ∧ k ≤ sN S ∧ ot S k = i) ↔ ¬ rd S i = 0 := by
  constructor
  · rintro ⟨k, k1, k2, k3⟩ q
    have := (B.2.2.2.2.2.1 k (by omega)).2.2.2.2.2.2.2.2.1
    rw [k3, q] at this; cases this
  · intro q
    exact (B.2.2.2.2.2.2.1 i q).2
theorem m_isRedefined (M : RM h S m) (W : WA S) {i : Nat} (i1 : 1 ≤ i) (i2 : i ≤ 120) (hQ : Q (.inl (some (.inl (jb (decide (¬ rd S i = 0)))))) h) : jM g mX10_isRedefined [.inr (.inr (some m)), .inl (nI i)] h 0 0 Q := by
  have hN := W.n
  have loop : ∀ n j (b : Bool), j + n = sN S + 1 → 1 ≤ j → (b = true ↔ ∃ k, 1 ≤ k ∧ k < j ∧ ot S k = i) → jG g mX10_isRedefined 4 [(0, .inr (.inr (some m))), (1, .inl (nI i)), (2, .inl (jb b)), (3, .inl (nI j))] [] h 0 0 Q := by
    intro n
    induction n with
    | zero =>
      intro j b e _ hb
      refine vX10_isRedefined_4 ⟨M.t, ?_⟩
      rw [M.many]
      refine ⟨fun _ => ⟨jb_01 b, ?_⟩, fun c => absurd (nI_lt (by omega) (by omega)) c⟩
      have eb : b = decide (¬ rd S i = 0) := by
        have : b = true ↔ ¬ rd S i = 0 := by
          rw [hb, ← rd_iff W.2.2.1 i1]
          constructor
          · rintro ⟨k, k1, k2, k3⟩; exact ⟨k, k1, by omega, k3⟩
          · rintro ⟨k, k1, k2, k3⟩; exact ⟨k, k1, by omega, k3⟩
        cases b with
        | true => exact (decide_eq_true (this.mp rfl)).symm
        | false => exact (decide_eq_false (fun q => by cases this.mpr q)).symm
      rw [eb]; exact hQ
    | succ n ih =>
      intro j b e hj hb
      obtain ⟨a1, a2, a3, a4⟩ := M.aot (i := j) hj (by omega)
      have wo : ot S j < j ∨ ot S j = 0 := W.1.2.2.2.2.2.2.2.2.2.2.2.2.1 j
      refine vX10_isRedefined_4 ⟨M.t, ?_⟩
      rw [M.many, a4, nI_eq (by omega) (by omega), nI_1, jb_0]
      refine ⟨fun c => absurd c (nI_nlt (by omega) (by omega)), fun _ => ⟨fun c => ?_, fun c => ⟨a1, a2, a3, fun c2 => ?_, fun c2 => ?_⟩⟩⟩
      · have bt : b = true := by simpa using c
        refine ih (j + 1) true (by omega) (by omega) ⟨fun _ => ?_, fun _ => rfl⟩
        obtain ⟨k, k1, k2, k3⟩ := hb.mp bt
        exact ⟨k, k1, by omega, k3⟩
      · refine ih (j + 1) false (by omega) (by omega) ⟨fun q => (by cases q), fun ⟨k, k1, k2, k3⟩ => ?_⟩
        by_cases ek : k = j
        · rw [ek] at k3; exact absurd k3 c2
        · have := hb.mpr ⟨k, k1, by omega, k3⟩
          rw [c] at this; cases this
      · exact ih (j + 1) true (by omega) (by omega) ⟨fun _ => ⟨j, hj, by omega, c2⟩, fun _ => rfl⟩
  exact eX10_isRedefined (loop (sN S) 1 false (by omega) (by omega) ⟨fun q => (by cases q), fun ⟨k, k1, k2, k3⟩ => by omega⟩)
theorem m_aside (M : RM h S m) (W : WA S) {i : Nat} (i1 : 1 ≤ i) (i2 : i ≤ sN S) (hl : lies S i = true) (hQ : Q (.inl (some (.inl (jb (aside S i))))) h) : jM g mX10_isAside [.inr (.inr (some m)), .inl (nI i)] h 0 0 Q := by
  have h1 := jq_t hQ
  have h0 := jq_f hQ
  have hN := W.n
  have hp := W.wb.p
  have loop : ∀ c, c ≤ sN S → (c = 0 ∨ lies S c = true) → aside S c = aside S i → jG g mX10_isAside 2 [(0, .inr (.inr (some m))), (2, .inl (nI c))] [] h 0 0 Q := by
    intro c
    induction c using Nat.strongRecOn with
    | _ c ih =>
      intro hc hlc eq
      refine vX10_isAside_2 ?_
      unfold VX10_isAside_2
      rw [le0 (by omega)]
      refine ⟨fun q => ⟨fun _ => h0 (by rw [← eq, q]; rfl), fun q2 => absurd q q2⟩, fun q => ?_⟩
      obtain ⟨a1, a2, a3, a4⟩ := M.aot (i := c) (by omega) (by omega)
      obtain ⟨b1, b2, b3, b4⟩ := M.apa (i := c) (by omega) (by omega)
      obtain ⟨x1, x2, x3⟩ := W.nx q hc hlc
      have wo : ot S c < c ∨ ot S c = 0 := W.1.2.2.2.2.2.2.2.2.2.2.2.2.1 c
      have z : nI (ot S c) = 0 ↔ ot S c = 0 := nI_eq (b := 0) (by omega) (by decide)
      have es : aside S c = (decide (ot S c ≠ 0) || aside S (cpa S c)) := chk_step hp (by omega)
      refine ⟨M.t, a1, a2, a3, ?_⟩
      rw [a4, b4, z, x1]
      refine ⟨fun q2 => ⟨fun q3 => absurd q3 q, fun _ => h1 ?_⟩, fun q2 => ⟨b1, b2, b3, ih _ x2 (by omega) x3 ?_⟩⟩
      · rw [← eq, es, decide_eq_true q2]; rfl
      · rw [← eq, es, decide_eq_false (fun w => w q2)]; rfl
  exact eX10_isAside (loop i i2 (Or.inr hl) rfl)
theorem m_tabs (M : RM h S m) (W : WA S) {i t : Nat} (i2 : i ≤ sN S) (hl : i = 0 ∨ lies S i = true) (ht : t = 0 ∨ onc S i t = true) (hQ : Q (.inl (some (.inl (nI (tabs S i - tabs S t))))) h) : jM g mX10_tablesUp [.inr (.inr (some m)), .inl (nI i), .inl (nI t)] h 0 0 Q := by
  have hN := W.n
  have hp := W.wb.p
  have h3 := W.wb.tab
  have mono : ∀ c, onc S c t = true → tabs S t ≤ tabs S c := by
    intro c
    induction c using Nat.strongRecOn with
    | _ c ih =>
      intro q
      have le := onc_le hp _ _ q
      rcases onc_or hp q with e | e
      · rw [e]; exact Nat.le_refl _
      · have := ih _ (hp c (by omega)) e
        have := tabs_step hp (j := c) (by omega)
        omega
  have t0 : tabs S 0 = 0 := rfl
  have htN : t ≤ sN S := by
    rcases ht with q | q
    · omega
    · have := onc_le hp _ _ q; omega
  have loop : ∀ c acc, c ≤ sN S → (c = 0 ∨ lies S c = true) → (t = 0 ∨ onc S c t = true) → acc + (tabs S c - tabs S t) = tabs S i - tabs S t → jG g mX10_tablesUp 5 [(0, .inr (.inr (some m))), (2, .inl (nI t)), (3, .inl (nI acc)), (4, .inl (nI c))] [] h 0 0 Q := by
    intro c
    induction c using Nat.strongRecOn with
    | _ c ih =>
      intro acc hc hlc hct eq
      refine vX10_tablesUp_5 ?_
      unfold VX10_tablesUp_5
      rw [le0 (by omega), nI_eq (by omega) (by omega)]
      have done : (c = 0 ∨ c = t) → Q (.inl (some (.inl (nI acc)))) h := fun q => by
        have : acc = tabs S i - tabs S t := by
          rcases q with q | q
          · rw [q, t0] at eq; omega
          · rw [q] at eq; omega
        rw [this]; exact hQ
      refine ⟨fun q => done (Or.inl q), fun q => ⟨fun q2 => done (Or.inr q2), fun q2 => ?_⟩⟩
      obtain ⟨a1, a2, a3, a4⟩ := M.atb (i := c) (by omega) (by omega)
      obtain ⟨b1, b2, b3, b4⟩ := M.apa (i := c) (by omega) (by omega)
      obtain ⟨x1, x2, x3⟩ := W.nx q hc hlc
      have wt := W.1.2.2.2.2.2.1 c
      have ts := tabs_step hp (j := c) (by omega)
      have nt : t = 0 ∨ onc S (cpa S c) t = true := by
        rcases hct with w | w
        · exact Or.inl w
        · rcases onc_or hp w with e | e
          · omega
          · exact Or.inr e
      have mn : tabs S t ≤ tabs S (cpa S c) := by
        rcases nt with w | w
        · rw [w, t0]; exact Nat.zero_le _
        · exact mono _ w
      refine ⟨M.t, a1, a2, a3, ?_⟩
      rw [a4, le0 (by omega)]
      refine ⟨fun q3 => ⟨M.t, b1, b2, b3, ?_⟩, fun q3 => ⟨M.t, b1, b2, b3, ?_⟩⟩
      · rw [b4, x1, show (0 : Int32) = nI 0 from rfl, nI_add]
        rw [if_neg (by omega)] at ts
        exact ih _ x2 _ (by omega) x3 nt (by omega)
      · rw [b4, x1, show (1 : Int32) = nI 1 from rfl, nI_add]
        rw [if_pos q3] at ts
        exact ih _ x2 _ (by omega) x3 nt (by omega)
  exact eX10_tablesUp (loop i 0 i2 hl ht (by omega))
theorem m_mayBeTable (M : RM h S m) (W : WA S) {i : Nat} {d : Bool} (i1 : 1 ≤ i) (i2 : i ≤ sN S) (hQ : Q (.inl (some (.inl (jb (okT S i d))))) h) : jM g mX10_mayBeTable [.inr (.inr (some m)), .inl (nI i), .inl (jb d)] h 0 0 Q := by
  have h1 := jq_t hQ
  have h0 := jq_f hQ
  have hN := W.n
  have F := W.1
  have hp := W.wb.p
  have h3 := W.wb.tab
  obtain ⟨a1, a2, a3, a4⟩ := M.alv i1 (by omega)
  obtain ⟨b1, b2, b3, b4⟩ := M.atb i1 (by omega)
  obtain ⟨c1, c2, c3, c4⟩ := M.apa i1 (by omega)
  have wl := F.lv i
  have wt := F.2.2.2.2.2.1 i
  have e1 : nI (lv S i) < 2 ↔ lv S i < 2 := nI_ltI (b := 2) (by omega) (by decide)
  have e2 : (49 : Int32) < nI (lv S i) ↔ 49 < lv S i := nI_ltI (a := 49) (by decide) (by omega)
  have e3 : 0 < nI (tb S i) ↔ 0 < tb S i := nI_ltI (a := 0) (by decide) (by omega)
  refine eX10_mayBeTable ⟨M.t, a1, a2, a3, ?_⟩
  rw [a4, b4, e1, e2, e3]
  refine ⟨fun q => h0 (decide_eq_false (fun w => by omega)), fun q => ⟨fun q2 => h0 (decide_eq_false (fun w => by omega)), fun q2 => ⟨b1, b2, b3, fun q3 => h0 (decide_eq_false (fun w => by omega)), fun q3 => ?_⟩⟩⟩
  have tb0 : tb S i = 0 := by omega
  have hl : lies S i = true := lies_mk (by omega)
  have pc := pa_cpa W.2.1 i1 i2 hl
  have pl := hp i (by omega)
  have ts := tabs_step hp (j := i) (by omega)
  rw [if_neg (by omega), Nat.zero_add] at ts
  have t3 := h3 i
  refine m_isRedefined M W i1 (by omega) ?_
  rw [jki_i, jb_0, c4, pc]
  refine ⟨fun r => ⟨M.t, c1, c2, c3, ?_⟩, fun r => h0 (decide_eq_false (fun w => ?_))⟩
  · have r0 : rd S i = 0 := by
      have := of_decide_eq_false r
      omega
    have lcp : cpa S i = 0 ∨ lies S (cpa S i) = true := by
      by_cases z : cpa S i = 0
      · exact Or.inl z
      · exact Or.inr (W.wb.ch i1 i2 hl z).1
    refine m_tabs (t := 0) M W (by omega) lcp (Or.inl rfl) ?_
    have t00 : tabs S 0 = 0 := rfl
    rw [jki_i, t00, Nat.sub_zero, ← ts, le0 (by omega), jb_0, nI_1]
    have loop : ∀ n j dp, j + n = sN S + 1 → i < j → dp ≤ 3 → (∀ k, i < k → k < j → bel S k i = true → tabs S k - tabs S i ≤ dp ∧ ¬ tb S k = 2) → (dp = 0 ∨ ∃ k, i < k ∧ k < j ∧ bel S k i = true ∧ dp = tabs S k - tabs S i) → (d = true → tabs S i = 0) → jG g mX10_mayBeTable 70 [(0, .inr (.inr (some m))), (1, .inl (nI i)), (3, .inl (nI (tabs S i))), (4, .inl (nI dp)), (5, .inl (nI j))] [] h 0 0 Q := by
      intro n
      induction n with
      | zero =>
        intro j dp e _ hd k1 k2 kd
        refine vX10_mayBeTable_70 ⟨M.t, ?_⟩
        have z : (3 : Int32) < nI (tabs S i + 1 + dp) ↔ 3 < tabs S i + 1 + dp := nI_ltI (a := 3) (by decide) (by omega)
        rw [M.many, nI_1, nI_add, z]
        refine ⟨fun _ => ⟨fun w => h0 (decide_eq_false (fun v => ?_)), fun w => h1 (decide_eq_true ⟨by omega, tb0, r0, kd, ?_⟩)⟩, fun c => absurd (nI_lt (by omega) (by omega)) c⟩
        · have v5 := v.2.2.2.2
          rw [rall_iff] at v5
          rcases k2 with k2 | ⟨k, x1, x2, x3, x4⟩
          · have := (of_decide_eq_true (v5 i (Nat.le_refl _) (by omega)) (Or.inl rfl)).1
            omega
          · have := (of_decide_eq_true (v5 k (by omega) (by omega)) (Or.inr x3)).1
            have := (of_decide_eq_true (v5 i (Nat.le_refl _) (by omega)) (Or.inl rfl)).1
            omega
        · rw [rall_iff]
          intro k x1 x2
          refine decide_eq_true (fun x3 => ?_)
          rcases x3 with x3 | x3
          · rw [x3]; exact ⟨by omega, by omega⟩
          · have ik : i < k := by
              have := onc_le hp _ _ x3
              have := hp k (by omega)
              omega
            obtain ⟨y1, y2⟩ := k1 k ik (by omega) x3
            exact ⟨by omega, y2⟩
      | succ n ih =>
        intro j dp e hj hd k1 k2 kd
        have hjN : j ≤ sN S := by omega
        refine vX10_mayBeTable_70 ⟨M.t, ?_⟩
        rw [M.many, nI_1 j]
        refine ⟨fun w => absurd w (nI_nlt (by omega) (by omega)), fun _ => m_lies M F (by omega) (by omega) ?_⟩
        rw [jki_i, jb_0]
        have skip : ¬ bel S j i = true → jG g mX10_mayBeTable 70 [(0, .inr (.inr (some m))), (1, .inl (nI i)), (3, .inl (nI (tabs S i))), (4, .inl (nI dp)), (5, .inl (nI (j + 1)))] [] h 0 0 Q := fun nb => by
          refine ih (j + 1) dp (by omega) (by omega) hd (fun k x1 x2 x3 => ?_) ?_ kd
          · by_cases ek : k = j
            · rw [ek] at x3; exact absurd x3 nb
            · exact k1 k x1 (by omega) x3
          · rcases k2 with k2 | ⟨k, x1, x2, x3, x4⟩
            · exact Or.inl k2
            · exact Or.inr ⟨k, x1, by omega, x3, x4⟩
        refine ⟨fun w => skip (fun nb => ?_), fun w => ⟨M.t, ?_⟩⟩
        · have : cpa S j = 0 := by
            have nl : ¬ lv S j < 50 := fun z => by rw [lies_mk (Or.inl z)] at w; cases w
            exact cpa_n nl
          unfold bel at nb
          rw [this] at nb; cases nb
        · have lj : lies S j = true := by simpa using w
          refine m_below M W (by omega) hjN lj i1 (by omega) ?_
          rw [jki_i, jb_0]
          refine ⟨fun w2 => ?_, fun w2 => skip (fun nb => by rw [nb] at w2; cases w2)⟩
          have bj : bel S j i = true := by simpa using w2
          obtain ⟨d1, d2, d3, d4⟩ := M.atb (i := j) (by omega) (by omega)
          have wtj := F.2.2.2.2.2.1 j
          have z2 : nI (tb S j) = 2 ↔ tb S j = 2 := nI_eq (b := 2) (by omega) (by decide)
          refine ⟨M.t, d1, d2, d3, ?_⟩
          rw [d4, z2]
          refine ⟨fun w3 => m_tabs (i := j) (t := i) M W hjN (Or.inr lj) (Or.inr (onc_up hp (by omega) bj)) ?_, fun w3 => h0 (decide_eq_false (fun v => ?_))⟩
          · have t3j := h3 j
            rw [jki_i, nI_leI (by omega) (by omega)]
            have step : ∀ dp', dp' ≤ 3 → dp ≤ dp' → tabs S j - tabs S i ≤ dp' → (dp' = dp ∨ dp' = tabs S j - tabs S i) → jG g mX10_mayBeTable 70 [(0, .inr (.inr (some m))), (1, .inl (nI i)), (3, .inl (nI (tabs S i))), (4, .inl (nI dp')), (5, .inl (nI (j + 1)))] [] h 0 0 Q := by
              intro dp' y1 y2 y3 y4
              refine ih (j + 1) dp' (by omega) (by omega) y1 (fun k x1 x2 x3 => ?_) ?_ kd
              · by_cases ek : k = j
                · rw [ek]; exact ⟨y3, w3⟩
                · have := k1 k x1 (by omega) x3
                  exact ⟨by omega, this.2⟩
              · rcases y4 with y4 | y4
                · rcases k2 with k2 | ⟨k, x1, x2, x3, x4⟩
                  · exact Or.inl (by omega)
                  · exact Or.inr ⟨k, x1, by omega, x3, by omega⟩
                · exact Or.inr ⟨j, hj, by omega, bj, y4⟩
            exact ⟨fun w4 => step dp hd (Nat.le_refl _) w4 (Or.inl rfl), fun w4 => step _ (by omega) (by omega) (Nat.le_refl _) (Or.inr rfl)⟩
          · have v5 := v.2.2.2.2
            rw [rall_iff] at v5
            exact (of_decide_eq_true (v5 j (by omega) (by omega)) (Or.inr bj)).2 w3
    have go : (d = true → tabs S i = 0) → jG g mX10_mayBeTable 70 [(0, .inr (.inr (some m))), (1, .inl (nI i)), (3, .inl (nI (tabs S i))), (4, .inl 0), (5, .inl (nI (i + 1)))] [] h 0 0 Q := fun kd => loop (sN S - i) (i + 1) 0 (by omega) (by omega) (by decide) (fun k x1 x2 => by omega) (Or.inl rfl) kd
    refine ⟨fun w => go (fun q => by rw [w] at q; cases q), fun w => ⟨fun w2 => go (fun _ => w2), fun w2 => h0 (decide_eq_false (fun v => ?_))⟩⟩
    have dt : d = true := by simpa using w
    exact w2 (v.2.2.2.1 dt)
  · have : ¬ rd S i = 0 := of_decide_eq_true (by simpa using r)
    exact this w.2.2.1
end Mod2
