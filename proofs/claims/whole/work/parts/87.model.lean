/-! the reference: which item isn't right -/
section ModE
variable {g : jg} {h h' : jh} {S : sg} {m : Nat} {G : Nat → Nat} {Q : jq}
theorem jb_dec {b : Bool} {p : Prop} [Decidable p] (e : b = true ↔ p) : b = decide p := by
  cases b with
  | true => exact (decide_eq_true (e.mp rfl)).symm
  | false => exact (decide_eq_false (fun q => by cases e.mpr q)).symm
theorem s_hasBelow (R : RS h S m) (W : WA S) {i : Nat} (i1 : 1 ≤ i) (i2 : i ≤ sN S) (hQ : Q (.inl (some (.inl (jb (decide (¬ lb S i = 0)))))) h) : jM g mX10_hasBelow [.inr (.inr (some m)), .inl (nI i)] h 0 0 Q := by
  have hN := W.n
  have F := W.1
  have A := W.2.1
  have loop : ∀ n j (b : Bool), j + n = sN S + 1 → i < j → (b = true ↔ ∃ k, i < k ∧ k < j ∧ lies S k = true ∧ pa S k = i) → jG g mX10_hasBelow 6 [(0, .inr (.inr (some m))), (1, .inl (nI i)), (2, .inl (jb b)), (3, .inl (nI j))] [] h 0 0 Q := by
    intro n
    induction n with
    | zero =>
      intro j b e _ hb
      refine vX10_hasBelow_6 ⟨R.t, ?_⟩
      rw [R.many]
      refine ⟨fun _ => ⟨jb_01 b, ?_⟩, fun c => absurd (nI_lt (by omega) (by omega)) c⟩
      have eb : b = decide (¬ lb S i = 0) := by
        refine jb_dec ?_
        rw [hb]
        constructor
        · rintro ⟨k, k1, k2, k3, k4⟩ q
          have ll := lies_of k3
          have l1 := A.lv1 (i := k) (by omega) (by omega)
          have a3 := (A k (by omega) (by omega)).2.2.1
          have n1 : ¬ (lv S k = 1 ∨ lv S k = 77) := fun z => by
            have := a3 (by omega)
            omega
          have d := ((A k (by omega) (by omega)).2.2.2.1 (by omega)).2.2.2.2.2.2.1
          rw [k4, q] at d
          omega
        · intro q
          obtain ⟨k, k1, k2, k3, k4⟩ := (A i i1 i2).2.2.2.2.2.2.2.2.2.2 q
          exact ⟨k, k1, by omega, k4, by rw [pa_cpa A (by omega) k2 k4]; exact k3⟩
      rw [eb]; exact hQ
    | succ n ih =>
      intro j b e hj hb
      have hjN : j ≤ sN S := by omega
      obtain ⟨d1, d2, d3, d4⟩ := R.apa (i := j) (by omega) (by omega)
      have wp := F.2.1 j (by omega)
      have next : ∀ b' : Bool, (b' = true ↔ b = true ∨ (lies S j = true ∧ pa S j = i)) → jG g mX10_hasBelow 6 [(0, .inr (.inr (some m))), (1, .inl (nI i)), (2, .inl (jb b')), (3, .inl (nI (j + 1)))] [] h 0 0 Q := fun b' hb' => ih (j + 1) b' (by omega) (by omega) (by
        rw [hb', hb]
        constructor
        · rintro (⟨k, k1, k2, k3⟩ | q)
          · exact ⟨k, k1, by omega, k3⟩
          · exact ⟨j, hj, by omega, q⟩
        · rintro ⟨k, k1, k2, k3⟩
          by_cases ek : k = j
          · rw [ek] at k3; exact Or.inr k3
          · exact Or.inl ⟨k, k1, by omega, k3⟩)
      refine vX10_hasBelow_6 ⟨R.t, ?_⟩
      rw [R.many, jb_0, nI_1]
      refine ⟨fun c => absurd c (nI_nlt (by omega) (by omega)), fun _ => ⟨fun c => next true ⟨fun _ => Or.inl (by simpa using c), fun _ => rfl⟩, fun c => s_lies R F (by omega) (by omega) ?_⟩⟩
      rw [jki_i, jb_0, d4, nI_eq (by omega) (by omega)]
      have nb : ¬ b = true := by rw [c]; decide
      refine ⟨fun c2 => next false ⟨fun q => (by cases q), fun q => ?_⟩, fun c2 => ⟨R.t, d1, d2, d3, fun c3 => next false ⟨fun q => (by cases q), fun q => ?_⟩, fun c3 => next true ⟨fun _ => Or.inr ⟨by simpa using c2, c3⟩, fun _ => rfl⟩⟩⟩
      · rcases q with q | q
        · exact absurd q nb
        · rw [c2] at q; cases q.1
      · rcases q with q | q
        · exact absurd q nb
        · exact absurd q.2 c3
  refine eX10_hasBelow ?_
  unfold VX10_hasBelow_0
  rw [nI_1]
  exact loop (sN S - i) (i + 1) false (by omega) (by omega) ⟨fun q => (by cases q), fun ⟨k, k1, k2, k3⟩ => by omega⟩
theorem s_isLast (R : RS h S m) (W : WA S) {i : Nat} (i1 : 1 ≤ i) (i2 : i ≤ sN S) (hQ : Q (.inl (some (.inl (jb (lst S i))))) h) : jM g mX10_isLast [.inr (.inr (some m)), .inl (nI i)] h 0 0 Q := by
  have hN := W.n
  have F := W.1
  have A := W.2.1
  have loop : ∀ n j (b : Bool), j + n = sN S + 1 → i < j → (b = true ↔ ∀ k, i < k → k < j → lstf S i k = true) → jG g mX10_isLast 6 [(0, .inr (.inr (some m))), (1, .inl (nI i)), (2, .inl (jb b)), (3, .inl (nI j))] [] h 0 0 Q := by
    intro n
    induction n with
    | zero =>
      intro j b e _ hb
      refine vX10_isLast_6 ⟨R.t, ?_⟩
      rw [R.many]
      refine ⟨fun _ => ⟨jb_01 b, ?_⟩, fun c => absurd (nI_lt (by omega) (by omega)) c⟩
      have eb : b = lst S i := by
        have : b = true ↔ lst S i = true := by
          rw [hb]
          unfold lst
          rw [rall_iff]
          exact ⟨fun q k a c => q k (by omega) (by omega), fun q k a c => q k (by omega) (by omega)⟩
        cases hq : lst S i with
        | true => exact this.mpr hq
        | false =>
          cases b with
          | true => rw [this.mp rfl] at hq; cases hq
          | false => rfl
      rw [eb]; exact hQ
    | succ n ih =>
      intro j b e hj hb
      have hjN : j ≤ sN S := by omega
      obtain ⟨d1, d2, d3, d4⟩ := R.arc (i := j) (by omega) (by omega)
      obtain ⟨e1, e2, e3, e4⟩ := R.arc (i := i) i1 (by omega)
      have w1 : rc S j ≤ j := F.2.2.2.2.2.2.2.2.2.2.2.1 j
      have w2 : rc S i ≤ i := F.2.2.2.2.2.2.2.2.2.2.2.1 i
      have next : ∀ b' : Bool, (b' = true ↔ b = true ∧ lstf S i j = true) → jG g mX10_isLast 6 [(0, .inr (.inr (some m))), (1, .inl (nI i)), (2, .inl (jb b')), (3, .inl (nI (j + 1)))] [] h 0 0 Q := fun b' hb' => ih (j + 1) b' (by omega) (by omega) (by
        rw [hb', hb]
        constructor
        · rintro ⟨q1, q2⟩ k a c
          by_cases ek : k = j
          · rw [ek]; exact q2
          · exact q1 k a (by omega)
        · intro q
          exact ⟨fun k a c => q k a (by omega), q j hj (by omega)⟩)
      refine vX10_isLast_6 ⟨R.t, ?_⟩
      rw [R.many, jb_0, nI_1]
      refine ⟨fun c => absurd c (nI_nlt (by omega) (by omega)), fun _ => ⟨fun c => next false ⟨fun q => (by cases q), fun q => by rw [c] at q; cases q.1⟩, fun c => s_lies R F (by omega) (by omega) ?_⟩⟩
      have bt : b = true := by simpa using c
      rw [jki_i, jb_0, d4, e4, nI_eq (by omega) (by omega)]
      refine ⟨fun c2 => next true ⟨fun _ => ⟨bt, decide_eq_true (fun _ q => by rw [c2] at q; cases q)⟩, fun _ => rfl⟩, fun c2 => ⟨R.t, d1, d2, d3, e3, fun c3 => next true ⟨fun _ => ⟨bt, decide_eq_true (fun q => absurd q c3)⟩, fun _ => rfl⟩, fun c3 => ?_⟩⟩
      have lj : lies S j = true := by simpa using c2
      refine s_below R W (by omega) hjN lj i1 (by omega) ?_
      rw [jki_i, jb_0]
      refine ⟨fun c4 => next false ⟨fun q => (by cases q), fun q => ?_⟩, fun c4 => next true ⟨fun _ => ⟨bt, decide_eq_true (fun _ _ => by simpa using c4)⟩, fun _ => rfl⟩⟩
      have := of_decide_eq_true q.2 c3 lj
      rw [c4] at this; cases this
  refine eX10_isLast ?_
  unfold VX10_isLast_0
  rw [nI_1]
  exact loop (sN S - i) (i + 1) true (by omega) (by omega) ⟨fun _ k a c => by omega, fun _ => rfl⟩
theorem s_isBadPart (R : RS h S m) (W : WA S) {i : Nat} (i1 : 1 ≤ i) (i2 : i ≤ sN S) (hn : ¬ rn S i = 0) (hQ : Q (.inl (some (.inl (jb (! rpt S (rn S i) (rm S i)))))) h) : jM g mX10_isBadPart [.inr (.inr (some m)), .inl (nI i)] h 0 0 Q := by
  have h1 := jq_t hQ
  have h0 := jq_f hQ
  have hN := W.n
  have F := W.1
  have A := W.2.1
  have B := W.2.2.1
  have WBh := W.wb
  have hp := WBh.p
  obtain ⟨d1, d2, d3, d4, d5, d6, d7, d8, d9, d10, d11⟩ := (B.2.2.2.2.2.2.2.2.1 i).2 hn
  obtain ⟨a1, a2, a3, a4⟩ := R.arn i1 (by omega)
  obtain ⟨b1, b2, b3, b4⟩ := R.arm i1 (by omega)
  generalize ha : rn S i = a at *
  generalize hc : rm S i = c at *
  have la : lies S a = true := lies_mk (by omega)
  have lc : lies S c = true := lies_mk (by omega)
  have t00 : tabs S 0 = 0 := rfl
  -- what is behind a renaming item in its record renames too
  have bef : ∀ k, 1 ≤ k → k ≤ sN S → lies S k = true → rc S k = rc S i → k < i := fun k k1 k2 k3 k4 => by
    have lk := lies_of k3
    by_cases q : k < i
    · exact q
    · exfalso
      by_cases q2 : k = i
      · rw [q2] at lk; omega
      · have := (A k k1 k2).2.2.2.2.2.2.2.2.2.1 i i1 (by omega) d3 k4.symm
        omega
  have ci : c < i := bef c (by omega) d6 lc d10
  have ta : ∀ x, tabs S x = 0 → 1 ≤ x → tb S x = 0 := fun x q q1 => tabs_0 hp x x q (onc_self hp (by omega))
  -- bad when ..
  have bad : (aside S a = true ∨ aside S c = true ∨ ¬ tabs S a = 0 ∨ ¬ tabs S c = 0 ∨ ∃ k, a ≤ k ∧ k < i ∧ lies S k = true ∧ ¬ tb S k = 0 ∧ (k ≤ c ∨ bel S k c = true)) → (! rpt S a c) = true := fun q => by
    have : rpt S a c = false := decide_eq_false (fun w => by
      obtain ⟨w1, w2, w3, w4, w5⟩ := w
      rw [rall_iff] at w5
      rcases q with q | q | q | q | ⟨k, k1, k2, k3, k4, k5⟩
      · rw [w3] at q; cases q
      · rw [w4] at q; cases q
      · exact q (of_decide_eq_true (w5 a (Nat.le_refl _) (by omega)) (Or.inl d5))
      · exact q (of_decide_eq_true (w5 c d5 (by omega)) (Or.inl (Nat.le_refl _)))
      · have := of_decide_eq_true (w5 k k1 (by omega)) k5
        exact k4 (ta k this (by omega)))
    rw [this]; rfl
  have good : aside S a = false → aside S c = false → tabs S a = 0 → tabs S c = 0 → (∀ k, a ≤ k → k < i → lies S k = true → ¬ tb S k = 0 → ¬ (k ≤ c ∨ bel S k c = true)) → (! rpt S a c) = false := fun g1 g2 g3 g4 g5 => by
    have : rpt S a c = true := decide_eq_true ⟨by omega, by omega, g1, g2, by
      rw [rall_iff]
      intro k k1 k2
      refine decide_eq_true (fun k3 => ?_)
      by_cases lk : lies S k = true
      · -- a table on its chain
        have none : ∀ t, onc S k t = true → tb S t = 0 := by
          intro t ht
          by_cases z : tb S t = 0
          · exact z
          · exfalso
            have le := onc_le hp _ _ ht
            have lt : lies S t = true := lies_onc WBh k t (by omega) lk ht
            by_cases at' : a ≤ t
            · have kr : rc S k = rc S i := by
                rcases k3 with k3 | k3
                · -- a ≤ k ≤ c, one record
                  have m1 := rc_mono A k a (by omega) k1 (by omega)
                  have m2 := rc_mono A c k (by omega) k3 d6
                  omega
                · have D := WD_of F A B
                  have := (rc_onc WBh D k c (by omega) lk (onc_up hp (by omega) k3)).1
                  omega
              have ki := bef k (by omega) (by omega) lk kr
              refine g5 t at' (by omega) lt z ?_
              rcases k3 with k3 | k3
              · left; omega
              · by_cases tc : t ≤ c
                · exact Or.inl tc
                · right
                  have kc := onc_up hp (by omega) k3
                  have := onc_tot hp k c t kc ht (by omega)
                  rcases onc_or hp this with q | q
                  · omega
                  · exact q
            · have I := INV.ms (b := true) WBh k (by omega)
              have eo : opn S k = k := by
                obtain ⟨k', rfl⟩ : ∃ k', k = k' + 1 := ⟨k - 1, by omega⟩
                show (if _ then _ else _) = _
                rw [if_pos lk]
              rw [eo] at I
              have ba : onc S (cpa S a) t = true := I.2.2.2.2.1 t a ht (by omega) k1 la
              exact z (tabs_0 hp a t g3 (onc_up hp (by omega) ba))
        have gen : ∀ x, (∀ t, onc S x t = true → tb S t = 0) → tabs S x = 0 := by
          intro x
          induction x using Nat.strongRecOn with
          | _ x ih =>
            intro hx
            by_cases x0 : x = 0
            · rw [x0]; rfl
            · have ts := tabs_step hp (j := x) (by omega)
              have z := hx x (onc_self hp (by omega))
              rw [if_neg (by omega)] at ts
              have := ih _ (hp x (by omega)) (fun t q => hx t (onc_up hp (by omega) q))
              omega
        exact gen k none
      · have nl : ¬ lv S k < 50 := fun z => lk (lies_mk (Or.inl z))
        have ts := tabs_step hp (j := k) (by omega)
        have tz : tb S k = 0 := by
          by_cases z : tb S k = 0
          · exact z
          · have := B.1 k z
            omega
        rw [if_neg (by omega), cpa_n nl] at ts
        omega⟩
    rw [this]; rfl
  refine eX10_isBadPart ⟨R.t, a1, a2, a3, b1, b2, b3, ?_⟩
  rw [a4, b4]
  refine s_aside R W (by omega) (by omega) la ?_
  rw [jki_i, jb_0]
  refine ⟨fun q => h1 (bad (Or.inl (by simpa using q))), fun q => ⟨R.t, s_aside R W (by omega) d6 lc ?_⟩⟩
  rw [jki_i, jb_0]
  refine ⟨fun q2 => h1 (bad (Or.inr (Or.inl (by simpa using q2)))), fun q2 => ⟨R.t, s_tabs (t := 0) R W (by omega) (Or.inr la) (Or.inl rfl) ?_⟩⟩
  have ta3 := WBh.tab a
  have tc3 := WBh.tab c
  rw [jki_i, t00, Nat.sub_zero, lt0 (by omega)]
  refine ⟨fun q3 => h1 (bad (Or.inr (Or.inr (Or.inl (by omega))))), fun q3 => ⟨R.t, s_tabs (t := 0) R W d6 (Or.inr lc) (Or.inl rfl) ?_⟩⟩
  rw [jki_i, t00, Nat.sub_zero, le0 (by omega)]
  refine ⟨fun q4 => ?_, fun q4 => h1 (bad (Or.inr (Or.inr (Or.inr (Or.inl q4)))))⟩
  have loop : ∀ n j (b : Bool), j + n = i → a ≤ j → (b = true ↔ ∃ k, a ≤ k ∧ k < j ∧ lies S k = true ∧ ¬ tb S k = 0 ∧ (k ≤ c ∨ bel S k c = true)) → jG g mX10_isBadPart 56 [(0, .inr (.inr (some m))), (1, .inl (nI i)), (3, .inl (nI c)), (4, .inl (jb b)), (5, .inl (nI j))] [] h 0 0 Q := by
    intro n
    induction n with
    | zero =>
      intro j b e _ hb
      refine vX10_isBadPart_56 ?_
      unfold VX10_isBadPart_56
      rw [nI_leI (by omega) (by omega)]
      refine ⟨fun _ => ⟨jb_01 b, ?_⟩, fun z => absurd (by omega) z⟩
      cases b with
      | true =>
        obtain ⟨k, k1, k2, k3⟩ := hb.mp rfl
        exact h1 (bad (Or.inr (Or.inr (Or.inr (Or.inr ⟨k, k1, by omega, k3⟩)))))
      | false =>
        refine h0 (good q q2 (by omega) q4 (fun k k1 k2 k3 k4 k5 => ?_))
        have := hb.mpr ⟨k, k1, by omega, k3, k4, k5⟩
        cases this
    | succ n ih =>
      intro j b e hj hb
      obtain ⟨x1, x2, x3, x4⟩ := R.atb (i := j) (by omega) (by omega)
      have wt := F.2.2.2.2.2.1 j
      have next : ∀ b' : Bool, (b' = true ↔ b = true ∨ (lies S j = true ∧ ¬ tb S j = 0 ∧ (j ≤ c ∨ bel S j c = true))) → jG g mX10_isBadPart 56 [(0, .inr (.inr (some m))), (1, .inl (nI i)), (3, .inl (nI c)), (4, .inl (jb b')), (5, .inl (nI (j + 1)))] [] h 0 0 Q := fun b' hb' => ih (j + 1) b' (by omega) (by omega) (by
        rw [hb', hb]
        constructor
        · rintro (⟨k, k1, k2, k3⟩ | z)
          · exact ⟨k, k1, by omega, k3⟩
          · exact ⟨j, hj, by omega, z⟩
        · rintro ⟨k, k1, k2, k3⟩
          by_cases ek : k = j
          · rw [ek] at k3; exact Or.inr k3
          · exact Or.inl ⟨k, k1, by omega, k3⟩)
      refine vX10_isBadPart_56 ?_
      unfold VX10_isBadPart_56
      rw [nI_leI (by omega) (by omega), jb_0, nI_1]
      refine ⟨fun z => absurd z (by omega), fun _ => ⟨fun z => next true ⟨fun _ => Or.inl (by simpa using z), fun _ => rfl⟩, fun z => ⟨R.t, s_lies R F (by omega) (by omega) ?_⟩⟩⟩
      have nb : ¬ b = true := by rw [z]; decide
      have nx : ¬ (lies S j = true ∧ ¬ tb S j = 0 ∧ (j ≤ c ∨ bel S j c = true)) → (false = true ↔ b = true ∨ (lies S j = true ∧ ¬ tb S j = 0 ∧ (j ≤ c ∨ bel S j c = true))) := fun w => ⟨fun v => (by cases v), fun v => by rcases v with v | v; exact absurd v nb; exact absurd v w⟩
      rw [jki_i, jb_0, x4, le0 (by omega), nI_leI (by omega) (by omega)]
      refine ⟨fun y => next false (nx (fun w => by rw [y] at w; cases w.1)), fun y => ⟨R.t, x1, x2, x3, fun y2 => next false (nx (fun w => w.2.1 y2)), fun y2 => ⟨fun y3 => next true ⟨fun _ => Or.inr ⟨by simpa using y, y2, Or.inl y3⟩, fun _ => rfl⟩, fun y3 => ?_⟩⟩⟩
      have lj : lies S j = true := by simpa using y
      refine s_below R W (by clear hb; omega) (by clear hb; omega) lj (by clear hb; omega) (by clear hb; omega) ?_
      rw [jki_i, jb_0]
      refine ⟨fun y4 => next false (nx (fun w => ?_)), fun y4 => next true ⟨fun _ => Or.inr ⟨lj, y2, Or.inr (by simpa using y4)⟩, fun _ => rfl⟩⟩
      rcases w.2.2 with w | w
      · exact y3 w
      · rw [y4] at w; cases w
  exact loop (i - a) a false (by omega) (Nat.le_refl _) ⟨fun z => (by cases z), fun ⟨k, k1, k2, k3⟩ => by omega⟩
theorem s_isWrong (R : RS h S m) (W : WA S) (hG : ∀ i, 1 ≤ i → i ≤ sN S → gU S i = max 1 (G i)) (H : HM h S m G (mfin S (gU S) false)) {i : Nat} (i1 : 1 ≤ i) (i2 : i ≤ sN S) (hQ : Q (.inl (some (.inl (jb (! rgt S (gU S) false (mfin S (gU S) false) i))))) h) : jM g mX10_isWrong [.inr (.inr (some m)), .inl (nI i)] h 0 0 Q := by
  have h1 := jq_t hQ
  have h0 := jq_f hQ
  have hN := W.n
  have F := W.1
  have A := W.2.1
  have B := W.2.2.1
  have WBh := W.wb
  obtain ⟨a1, a2, a3, a4⟩ := R.alv i1 (by omega)
  obtain ⟨b1, b2, b3, b4⟩ := R.aus i1 (by omega)
  obtain ⟨c1, c2, c3, c4⟩ := R.arn i1 (by omega)
  obtain ⟨d1, d2, d3, d4⟩ := R.arg i1 (by omega)
  have wl := F.lv i
  have wu := F.us i
  have wg : rg S i ≤ 8 := F.2.2.2.2.2.2.2.2.2.1 i
  have wn : rn S i ≤ sN S := F.2.2.2.2.2.2.2.2.2.2.2.2.2.1 i
  have e88 : nI (lv S i) = 88 ↔ lv S i = 88 := nI_eq (b := 88) (by omega) (by decide)
  have e66 : nI (lv S i) = 66 ↔ lv S i = 66 := nI_eq (b := 66) (by omega) (by decide)
  have eu : nI (us S i) = 0 ↔ us S i = 0 := nI_eq (b := 0) (by omega) (by decide)
  have en : nI (rn S i) = 0 ↔ rn S i = 0 := nI_eq (b := 0) (by omega) (by decide)
  have eg : nI (rg S i) = 0 ↔ rg S i = 0 := nI_eq (b := 0) (by omega) (by decide)
  refine eX10_isWrong ⟨R.t, a1, a2, a3, ?_⟩
  rw [a4, b4, c4, d4, e88, e66, eu, en, eg]
  refine ⟨fun n88 => ⟨fun n66 => ⟨b1, b2, b3, ?_⟩, fun y66 => ⟨c1, c2, c3, fun z => h1 ?_, fun z => s_isBadPart R W i1 i2 z ?_⟩⟩, fun y88 => ⟨d1, d2, d3, fun z => h0 ?_, fun z => h1 ?_⟩⟩
  · have ll : lies S i = true := by
      have := (A i i1 i2).1
      exact lies_mk (by omega)
    obtain ⟨f1, f2, f3, f4, f5, f6, f7⟩ := fin_b (b := false) WBh hN i1 i2 ll
    have er : rgt S (gU S) false (mfin S (gU S) false) i = decide (¬ (us S i = 0 ∧ lb S i = 0) ∧ (tb S i = 2 → lst S i = true) ∧ (¬ ot S i = 0 → (if false = true then mfin S (gU S) false 0 i = mfin S (gU S) false 0 (ot S i) else rup (mfin S (gU S) false 0 i) (alg S (gU S) i) = mfin S (gU S) false 0 i) ∧ (lv S i = 1 ∨ xtn S (mfin S (gU S) false) i ≤ xtn S (mfin S (gU S) false) (ot S i))) ∧ (¬ na S i = 0 → mfin S (gU S) false 1 (fnm S (na S i)) - mfin S (gU S) false 0 (fnm S (na S i)) = mfin S (gU S) false 1 i - mfin S (gU S) false 0 i)) := by
      unfold rgt
      rw [if_neg n88, if_neg n66]
    have no : ¬ (¬ (us S i = 0 ∧ lb S i = 0) ∧ (tb S i = 2 → lst S i = true) ∧ (¬ ot S i = 0 → (rup (mfin S (gU S) false 0 i) (alg S (gU S) i) = mfin S (gU S) false 0 i) ∧ (lv S i = 1 ∨ xtn S (mfin S (gU S) false) i ≤ xtn S (mfin S (gU S) false) (ot S i))) ∧ (¬ na S i = 0 → mfin S (gU S) false 1 (fnm S (na S i)) - mfin S (gU S) false 0 (fnm S (na S i)) = mfin S (gU S) false 1 i - mfin S (gU S) false 0 i)) → Q (.inl (some (.inl 1))) h := fun q => h1 (by
      rw [er, decide_eq_false (fun w => q ⟨w.1, w.2.1, fun z => ?_, w.2.2.2⟩)]; rfl
      have := w.2.2.1 z
      rw [if_neg (by decide)] at this
      exact this)
    have yes : (¬ (us S i = 0 ∧ lb S i = 0) ∧ (tb S i = 2 → lst S i = true) ∧ (¬ ot S i = 0 → (rup (mfin S (gU S) false 0 i) (alg S (gU S) i) = mfin S (gU S) false 0 i) ∧ (lv S i = 1 ∨ xtn S (mfin S (gU S) false) i ≤ xtn S (mfin S (gU S) false) (ot S i))) ∧ (¬ na S i = 0 → mfin S (gU S) false 1 (fnm S (na S i)) - mfin S (gU S) false 0 (fnm S (na S i)) = mfin S (gU S) false 1 i - mfin S (gU S) false 0 i)) → Q (.inl (some (.inl 0))) h := fun q => h0 (by
      rw [er, decide_eq_true ⟨q.1, q.2.1, fun z => ⟨by rw [if_neg (by decide)]; exact (q.2.2.1 z).1, (q.2.2.1 z).2⟩, q.2.2.2⟩]; rfl)
    obtain ⟨g1, g2, g3⟩ := H.2.1 i i1 i2 f1
    obtain ⟨g4, g5⟩ := H.2.2.2 i i1 i2 f2
    have vin : vp_in (nI i) 121 := vp_in_nI (by omega) (by decide)
    have ncl : (nI i).toNatClampNeg = i := nI_clamp (by omega)
    have exx : ∀ k, 1 ≤ k → k ≤ sN S → lies S k = true → exf S (gU S) (mfin S (gU S) false) k = xtn S (mfin S (gU S) false) k := fun k k1 k2 k3 => by
      have c2' := (INV.mf (b := false) WBh).2.1 k k1 k2 k3 rfl
      unfold xtn exf
      by_cases ht : tb S k = 0
      · rw [if_pos ht, if_pos ht]
      · rw [if_neg ht, if_neg ht, c2'.2.1 ht]
    have h195 : ¬ (us S i = 0 ∧ lb S i = 0) → (tb S i = 2 → lst S i = true) → (¬ ot S i = 0 → (rup (mfin S (gU S) false 0 i) (alg S (gU S) i) = mfin S (gU S) false 0 i) ∧ (lv S i = 1 ∨ xtn S (mfin S (gU S) false) i ≤ xtn S (mfin S (gU S) false) (ot S i))) → VX10_isWrong_195 g m (nI i) h 0 0 Q := by
      intro q1 q2 q3
      obtain ⟨n1, n2, n3, n4⟩ := R.ana i1 i2 hN
      obtain ⟨k1, k2, k3⟩ := R.k22
      have wna : na S i ≤ 100 := F.2.2.2.2.2.2.2.2.2.2.1 i
      refine ⟨R.t, n1, n2, n3, ?_⟩
      rw [n4, nam1 wna, k1, jd_s, k3]
      refine ⟨fun z => yes ⟨q1, q2, q3, fun w => absurd z w⟩, fun z => ⟨jsn, k2, vin, s_firstOf R W i1 i2 z ?_⟩⟩
      have fl := fnm_le S (na S i)
      obtain ⟨f0, -⟩ := fnm_min (S := S) i1 i2 rfl
      have lf : lies S (fnm S (na S i)) = true := by
        have := (B.2.2.2.2.2.2.2.1 (fnm S (na S i)) (by rw [fnm_na f0]; exact z)).2.2.1
        exact lies_mk (by omega)
      obtain ⟨j1, j2, j3, j4, j5, j6, j7⟩ := fin_b (b := false) WBh hN (by omega) fl lf
      rw [jki_i, k3, ncl, nI_clamp (by omega), g2, (H.2.1 _ (by omega) fl j1).2.1, nL_eq (by omega) (by omega)]
      exact ⟨k2, vp_in_nI (by omega) (by decide), fun w => yes ⟨q1, q2, q3, fun _ => w.symm⟩, fun w => no (fun y => w (y.2.2.2 z).symm)⟩
    have h160 : ¬ (us S i = 0 ∧ lb S i = 0) → (tb S i = 2 → lst S i = true) → (¬ ot S i = 0 → (lv S i = 1 ∨ xtn S (mfin S (gU S) false) i ≤ xtn S (mfin S (gU S) false) (ot S i))) → VX10_isWrong_160 g m (nI i) h 0 0 Q := by
      intro q1 q2 q3
      obtain ⟨n1, n2, n3, n4⟩ := R.aot i1 (by omega)
      obtain ⟨k1, k2, k3⟩ := R.k21
      have wo : ot S i < i ∨ ot S i = 0 := F.2.2.2.2.2.2.2.2.2.2.2.2.1 i
      refine ⟨R.t, n1, n2, n3, ?_⟩
      rw [n4, le0 (by omega), k1, jd_s, k3, ncl, g1]
      refine ⟨fun z => h195 q1 q2 (fun w => absurd z w), fun z => ⟨jsn, k2, vin, s_align R F H i1 i2 ?_⟩⟩
      rw [jki_i]
      have ea : max 1 (if tb S i = 0 ∧ sy S i = 0 then 1 else G i) = alg S (gU S) i := by
        unfold alg
        by_cases q : tb S i = 0 ∧ sy S i = 0
        · rw [if_pos q, if_pos ⟨q.2, q.1⟩]; rfl
        · rw [if_neg q, if_neg (fun z => q ⟨z.2, z.1⟩), hG i i1 i2]
      have hal := WBh.al i
      refine s_up (by omega) (by rw [ea]; exact hal) ?_
      have ru := rup_ge (n := mfin S (gU S) false 0 i) (u := alg S (gU S) i) hal.le.1
      have h8 := hal.le.2
      rw [jkl_i, ea, k1, jd_s, k3, g1, nL_eq (by omega) (by omega)]
      exact ⟨R.t, jsn, k2, vin, fun w => h195 q1 q2 (fun y => ⟨w, q3 y⟩), fun w => no (fun y => w (y.2.2.1 z).1)⟩
    have h99 : ¬ (us S i = 0 ∧ lb S i = 0) → (tb S i = 2 → lst S i = true) → VX10_isWrong_99 g m (nI i) h 0 0 Q := by
      intro q1 q2
      obtain ⟨n1, n2, n3, n4⟩ := R.aot i1 (by omega)
      obtain ⟨k1, k2, k3⟩ := R.k21
      obtain ⟨l1, l2, l3⟩ := R.k24
      have wo : ot S i < i ∨ ot S i = 0 := F.2.2.2.2.2.2.2.2.2.2.2.2.1 i
      have e1 : nI (lv S i) = 1 ↔ lv S i = 1 := nI_eq (b := 1) (by omega) (by decide)
      refine ⟨R.t, n1, n2, n3, ?_⟩
      rw [n4, le0 (by omega), a4, e1]
      refine ⟨fun z => h160 q1 q2 (fun w => absurd z w), fun z => ⟨a1, a2, a3, fun z2 => h160 q1 q2 (fun _ => Or.inl z2), fun z2 => ?_⟩⟩
      obtain ⟨o1, o2, o3, o4, o5, o6⟩ := WBh.o i1 i2 z
      obtain ⟨j1, j2, j3, j4, j5, j6, j7⟩ := fin_b (b := false) WBh hN (i := ot S i) (by omega) (by omega) o2
      obtain ⟨p1, p2, p3⟩ := H.2.1 (ot S i) (by omega) (by omega) j1
      obtain ⟨p4, p5⟩ := H.2.2.2 (ot S i) (by omega) (by omega) j2
      have x1 := exx i i1 i2 ll
      have x2 := exx (ot S i) (by omega) (by omega) o2
      rw [l1, jd_s, l3, k1, jd_s, k3, ncl, nI_clamp (by omega), g4, g1, p4, p1, nL_sub (by omega), nL_sub (by omega), x1, x2, Nat.add_sub_cancel_left, Nat.add_sub_cancel_left]
      have le : nL (xtn S (mfin S (gU S) false) i) ≤ nL (xtn S (mfin S (gU S) false) (ot S i)) ↔ xtn S (mfin S (gU S) false) i ≤ xtn S (mfin S (gU S) false) (ot S i) := pk_lLE (by omega) (by omega)
      rw [le]
      refine ⟨jsn, l2, vin, jsn, k2, vin, vp_in_nI (by omega) (by decide), vp_in_nI (by omega) (by decide), fun w => h160 q1 q2 (fun _ => Or.inr w), fun w => no (fun y => ?_)⟩
      rcases (y.2.2.1 z).2 with y2 | y2
      · exact z2 y2
      · exact w y2
    have h79 : ¬ (us S i = 0 ∧ lb S i = 0) → VX10_isWrong_79 g m (nI i) h 0 0 Q := by
      intro q1
      obtain ⟨n1, n2, n3, n4⟩ := R.atb i1 (by omega)
      have wt := F.2.2.2.2.2.1 i
      have e2 : nI (tb S i) = 2 ↔ tb S i = 2 := nI_eq (b := 2) (by omega) (by decide)
      refine ⟨R.t, n1, n2, n3, ?_⟩
      rw [n4, e2]
      refine ⟨fun z => h99 q1 (fun w => absurd w z), fun z => s_isLast R W i1 i2 ?_⟩
      rw [jki_i, jb_0]
      refine ⟨fun w => h99 q1 (fun _ => by simpa using w), fun w => no (fun y => ?_)⟩
      rw [y.2.1 z] at w; cases w
    refine ⟨fun z => h79 (fun y => z y.1), fun z => s_hasBelow R W i1 i2 ?_⟩
    rw [jki_i, jb_0]
    refine ⟨fun w => h79 (fun y => ?_), fun w => no (fun y => y.1 ⟨z, Decidable.not_not.mp (of_decide_eq_false w)⟩)⟩
    exact (of_decide_eq_true (by simpa using w : decide (¬ lb S i = 0) = true)) y.2
  · unfold rgt
    rw [if_neg n88, if_pos y66]
    have : rpt S (rn S i) (rm S i) = false := decide_eq_false (fun w => w.1 z)
    rw [this]; rfl
  · have er : rgt S (gU S) false (mfin S (gU S) false) i = rpt S (rn S i) (rm S i) := by
      unfold rgt
      rw [if_neg n88, if_pos y66]
    rw [er] at h1 h0
    rw [jki_i, jb_0]
    exact ⟨fun w => h0 w, fun w => h1 (by simpa using w)⟩
  · unfold rgt
    rw [if_pos y88, decide_eq_true z]; rfl
  · unfold rgt
    rw [if_pos y88, decide_eq_false (fun w => w z)]; rfl
end ModE
