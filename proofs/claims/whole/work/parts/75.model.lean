/-! the reference: what it changes; above, named -/
/-- only the reference's own cells change -/
def FMb (m : Nat) (h h' : jh) : Prop := jz h' = jz h ∧ jt h' = jt h ∧ jn h' = jn h ∧ (∀ k c, (c ≠ m ∨ k < 512) → ji h' k c = ji h k c ∧ jl h' k c = jl h k c) ∧ jr h' = jr h ∧ (∀ c, (c < m + 1 ∨ m + 27 < c) → jI h' c = jI h c ∧ jL h' c = jL h c) ∧ jR h' = jR h
section Mod3
variable {g : jg} {h h' h1 : jh} {S : sg} {m : Nat} {Q : jq}
theorem FMb.rf : FMb m h h := ⟨rfl, rfl, rfl, fun _ _ _ => ⟨rfl, rfl⟩, rfl, fun _ _ => ⟨rfl, rfl⟩, rfl⟩
theorem FMb.trans {h2 : jh} (p : FMb m h h1) (q : FMb m h1 h2) : FMb m h h2 := by
  obtain ⟨p1, p2, p3, p4, p5, p6, p7⟩ := p
  obtain ⟨q1, q2, q3, q4, q5, q6, q7⟩ := q
  exact ⟨q1.trans p1, q2.trans p2, q3.trans p3, fun k c e => ⟨(q4 k c e).1.trans (p4 k c e).1, (q4 k c e).2.trans (p4 k c e).2⟩, q5.trans p5, fun c e => ⟨(q6 c e).1.trans (p6 c e).1, (q6 c e).2.trans (p6 c e).2⟩, q7.trans p7⟩
theorem FMb.si {k : Nat} {v : Int32} (e : h' = jsi h k m v) (hk : 512 ≤ k) : FMb m h h' := by
  subst e
  refine ⟨rfl, rfl, rfl, fun k' c q => ⟨?_, rfl⟩, rfl, fun _ _ => ⟨rfl, rfl⟩, rfl⟩
  rw [ji_si, if_neg (by omega)]
theorem FMb.sl {k : Nat} {v : Int64} (e : h' = jsl h k m v) (hk : 512 ≤ k) : FMb m h h' := by
  subst e
  refine ⟨rfl, rfl, rfl, fun k' c q => ⟨rfl, ?_⟩, rfl, fun _ _ => ⟨rfl, rfl⟩, rfl⟩
  rw [jl_sl, if_neg (by omega)]
theorem FMb.sI {j i : Nat} {v : Int32} (e : h' = jsI h (m + j) i v) (h1 : 1 ≤ j) (h2 : j ≤ 27) : FMb m h h' := by
  subst e
  refine ⟨rfl, rfl, rfl, fun _ _ _ => ⟨rfl, rfl⟩, rfl, fun c q => ⟨?_, rfl⟩, rfl⟩
  funext x
  rw [jI_sI, if_neg (by omega)]
theorem FMb.sL {j i : Nat} {v : Int64} (e : h' = jsL h (m + j) i v) (h1 : 1 ≤ j) (h2 : j ≤ 27) : FMb m h h' := by
  subst e
  refine ⟨rfl, rfl, rfl, fun _ _ _ => ⟨rfl, rfl⟩, rfl, fun c q => ⟨rfl, ?_⟩, rfl⟩
  funext x
  rw [jL_sL, if_neg (by omega)]
theorem RA.fm (A : RA h m) (F : FMb m h h') : RA h' m := by
  obtain ⟨p1, p2, p3, p4, p5, p6, p7⟩ := F
  refine ⟨by rw [p2]; exact A.1, fun j a b => ?_⟩
  rw [p2, p3, p5]
  exact A.2 j a b
theorem rc_mono (A : WS1 S) : ∀ n k, 1 ≤ k → k ≤ n → n ≤ sN S → rc S k ≤ rc S n := by
  intro n
  induction n with
  | zero => intro k a b; omega
  | succ n ih =>
    intro k a b c
    by_cases e : k = n + 1
    · rw [e]; exact Nat.le_refl _
    · have i1 := ih k a (by omega) (by omega)
      obtain ⟨a1, a2, a3, a4, a5, a6, a7, -⟩ := A (n + 1) (by omega) c
      by_cases q : lv S (n + 1) = 1 ∨ lv S (n + 1) = 77
      · rw [a6 q]
        have := A.wr k a (by omega)
        omega
      · have := (a7 q).2
        rw [show n + 1 - 1 = n by omega] at this
        rw [this]; exact i1
theorem rc_last (A : WS1 S) {k : Nat} (h1 : rc S (sN S) < k) (h2 : k ≤ sN S) : ¬ (lv S k = 1 ∨ lv S k = 77) := by
  intro q
  have := (A k (by omega) h2).2.2.2.2.2.1 q
  have := rc_mono A (sN S) k (by omega) h2 (Nat.le_refl _)
  omega
theorem m_above (M : RM h S m) (W : WA S) {l : Nat} (l1 : 2 ≤ l) (l2 : l ≤ 49) (hQ : Q (.inl (some (.inl (nI (if okP S l = true then aro S l else 0))))) h) : jM g mX10_above [.inr (.inr (some m)), .inl (nI l)] h 0 0 Q := by
  have hN := W.n
  have F := W.1
  have A := W.2.1
  have hQ0 : okP S l = false → Q (.inl (some (.inl 0))) h := fun q => by rw [if_neg (by rw [q]; decide)] at hQ; exact hQ
  have ea : aro S l = lesser S l (sN S) := by
    unfold aro
    rw [if_neg (by omega), if_neg (by omega), if_neg (by omega), if_neg (by omega)]
  have okf : (aro S l = 0 ∨ ¬ us S (aro S l) = 0 ∨ (¬ lb S (aro S l) = 0 ∧ ¬ lb S (aro S l) = l)) → okP S l = false := fun q => by
    refine decide_eq_false (fun w => ?_)
    rcases w with w | w | ⟨w1, w2⟩
    · omega
    · omega
    · rcases w2 with w2 | ⟨w3, w4, w5⟩
      · omega
      · rcases q with q | q | q
        · exact w1 q
        · exact q w4
        · omega
  have z0 : nI (sN S) = 0 ↔ sN S = 0 := nI_eq (b := 0) (by omega) (by decide)
  refine eX10_above ⟨M.t, ?_⟩
  rw [M.many, z0]
  refine ⟨fun c => hQ0 (okf (Or.inl (by rw [ea, c]; rfl))), fun c => ?_⟩
  have wr := A.wr (sN S) (by omega) (Nat.le_refl _)
  obtain ⟨a1, a2, a3, a4⟩ := M.arc (i := sN S) (by omega) hN
  rw [a4]
  obtain ⟨b1, b2, b3, b4⟩ := M.alv (i := rc S (sN S)) wr.1 (by omega)
  have zl : ∀ k i : Nat, k < 1000 → (nI (lv S i) = nI k ↔ lv S i = k) := fun k i hk => nI_eq (by have := F.lv i; omega) (by omega)
  have e1 : nI (lv S (rc S (sN S))) = 1 ↔ lv S (rc S (sN S)) = 1 := zl 1 _ (by decide)
  rw [b4, e1]
  refine ⟨a1, a2, a3, b1, b2, b3, fun q => ?_, fun q => hQ0 (okf (Or.inl ?_))⟩
  · -- behind the loop: k is found
    have h85 : ∀ k, 1 ≤ k → rc S (sN S) ≤ k → k ≤ sN S → lesser S l (sN S) = k → VX10_above_85 g m (nI l) (nI k) h 0 0 Q := by
      intro k k1 k0 k2 k3
      refine ⟨M.t, ?_⟩
      rw [M.many, a4, nI_ltI (by omega) (by omega)]
      obtain ⟨c1, c2, c3, c4⟩ := M.aus (i := k) k1 (by omega)
      have zu : nI (us S k) = 0 ↔ us S k = 0 := nI_eq (b := 0) (by have := F.us k; omega) (by decide)
      refine ⟨a1, a2, a3, fun w => absurd w (by omega), fun _ => ⟨c1, c2, c3, ?_⟩⟩
      rw [c4, zu, nI_1]
      rw [k3] at ea
      refine ⟨fun w => ?_, fun w => hQ0 (okf (Or.inr (Or.inl (by rw [ea]; exact w))))⟩
      have loop2 : ∀ n j, j + n = sN S + 1 → k < j → (∀ i, k < i → i < j → lies S i = true → pa S i = k → lv S i = l) → jG g mX10_above 113 [(0, .inr (.inr (some m))), (1, .inl (nI l)), (2, .inl (nI k)), (3, .inl (nI j))] [] h 0 0 Q := by
        intro n
        induction n with
        | zero =>
          intro j e _ hall
          refine vX10_above_113 ⟨M.t, ?_⟩
          rw [M.many]
          refine ⟨fun _ => ?_, fun c => absurd (nI_lt (by omega) (by omega)) c⟩
          have okt : okP S l = true := by
            refine decide_eq_true (Or.inr (Or.inr ⟨by omega, Or.inr ⟨by omega, by rw [ea]; exact w, Or.inr ?_⟩⟩))
            rw [ea]
            by_cases lb0 : lb S k = 0
            · exact Or.inl lb0
            · right
              obtain ⟨c', x1, x2, x3, x4⟩ := (A k k1 k2).2.2.2.2.2.2.2.2.2.2 lb0
              have pc := pa_cpa A (by omega) x2 x4
              have lv' := hall c' x1 (by omega) x4 (by rw [pc]; exact x3)
              have x4' := lies_of x4
              have ll := A.lv1 (i := c') (by omega) x2
              obtain ⟨d1, d2, d3, d4, d5, d6, d7, d8⟩ := (A c' (by omega) x2).2.2.2.1 (by omega)
              rw [pc, x3] at d7
              omega
          rw [if_pos okt, ea] at hQ
          exact hQ
        | succ n ih =>
          intro j e hj hall
          have hjN : j ≤ sN S := by omega
          refine vX10_above_113 ⟨M.t, ?_⟩
          rw [M.many, nI_1]
          refine ⟨fun c => absurd c (nI_nlt (by omega) (by omega)), fun _ => m_lies M F (by omega) (by omega) ?_⟩
          rw [jki_i, jb_0]
          have next : (lies S j = true → pa S j = k → lv S j = l) → jG g mX10_above 113 [(0, .inr (.inr (some m))), (1, .inl (nI l)), (2, .inl (nI k)), (3, .inl (nI (j + 1)))] [] h 0 0 Q := fun y => by
            refine ih (j + 1) (by omega) (by omega) (fun i x1 x2 x3 x4 => ?_)
            by_cases ei : i = j
            · rw [ei] at x3 x4 ⊢; exact y x3 x4
            · exact hall i x1 (by omega) x3 x4
          obtain ⟨d1, d2, d3, d4⟩ := M.apa (i := j) (by omega) (by omega)
          obtain ⟨f1, f2, f3, f4⟩ := M.alv (i := j) (by omega) (by omega)
          have pj := F.2.1 j (by omega)
          rw [d4, f4, nI_eq (by omega) (by omega), zl l j (by omega)]
          refine ⟨fun y => next (fun y2 => by rw [y] at y2; cases y2), fun y => ⟨M.t, d1, d2, d3, fun y2 => next (fun _ y3 => absurd y3 y2), fun y2 => ⟨f1, f2, f3, fun y3 => next (fun _ _ => y3), fun y3 => hQ0 (okf (Or.inr (Or.inr ?_)))⟩⟩⟩
          have lj : lies S j = true := by simpa using y
          have pc := pa_cpa A (by omega) hjN lj
          have ll := A.lv1 (i := j) (by omega) hjN
          have lj' := lies_of lj
          have n1 : ¬ lv S j = 1 ∧ ¬ lv S j = 77 := by
            have := (A j (by omega) hjN).2.2.1
            constructor
            · intro q5
              have := this (Or.inl q5)
              omega
            · intro q5
              have := this (Or.inr (Or.inr q5))
              omega
          obtain ⟨g1, g2, g3, g4, g5, g6, g7, g8⟩ := (A j (by omega) hjN).2.2.2.1 (by omega)
          rw [y2] at g7
          rw [ea, g7]
          exact ⟨by omega, y3⟩
      exact loop2 (sN S - k) (k + 1) (by omega) (by omega) (fun i x1 x2 => by omega)
    have loop : ∀ c', c' ≤ sN S → rc S (sN S) ≤ c' → lesser S l c' = lesser S l (sN S) → jG g mX10_above 32 [(0, .inr (.inr (some m))), (1, .inl (nI l)), (2, .inl (nI c'))] [] h 0 0 Q := by
      intro c'
      induction c' with
      | zero => intro _ h2; omega
      | succ c' ih =>
        intro h1 h2 h3
        obtain ⟨c1, c2, c3, c4⟩ := M.alv (i := c' + 1) (by omega) (by omega)
        have hl := F.lv (c' + 1)
        refine vX10_above_32 ⟨M.t, ?_⟩
        have z49 : (49 : Int32) < nI (lv S (c' + 1)) ↔ 49 < lv S (c' + 1) := nI_ltI (a := 49) (by decide) (by omega)
        have e3 : lesser S l (c' + 1) = if lv S (c' + 1) = 66 ∨ lv S (c' + 1) = 77 then 0 else if (lv S (c' + 1) : Int) < l then c' + 1 else lesser S l c' := rfl
        rw [M.many, a4, nI_ltI (by omega) (by omega), c4, z49, nI_ltI (by omega) (by omega)]
        refine ⟨a1, a2, a3, fun w => absurd w (by omega), fun _ => ⟨c1, c2, c3, ?_⟩⟩
        have ne77 : ¬ lv S (c' + 1) = 77 := by
          by_cases er : rc S (sN S) = c' + 1
          · rw [← er, q]; decide
          · exact fun w => rc_last A (by omega) h1 (Or.inr w)
        have h66 : (49 < lv S (c' + 1) ∨ ¬ lv S (c' + 1) < l) → VX10_above_66 g m (nI l) (nI (c' + 1)) h 0 0 Q := fun w => by
          have z66 : nI (lv S (c' + 1)) = 66 ↔ lv S (c' + 1) = 66 := zl 66 _ (by decide)
          refine ⟨M.t, c1, c2, c3, ?_⟩
          rw [c4, z66, pk_m1]
          refine ⟨fun w2 => ?_, fun w2 => hQ0 (okf (Or.inl ?_))⟩
          · rw [e3, if_neg (by omega), if_neg (by omega)] at h3
            refine ih (by omega) ?_ h3
            by_cases er : rc S (sN S) = c' + 1
            · rw [← er, q] at w; omega
            · omega
          · rw [ea, ← h3, e3, if_pos (Or.inl w2)]
        refine ⟨fun w => h66 (Or.inl w), fun w => ⟨fun w2 => h85 (c' + 1) (by omega) h2 h1 ?_, fun w2 => h66 (Or.inr w2)⟩⟩
        rw [← h3, e3, if_neg (by omega), if_pos (by omega)]
    exact loop (sN S) (Nat.le_refl _) wr.2 rfl
  · -- the last record isn't of level 1
    rw [ea]
    have wl := (A _ wr.1 wr.2).1
    have rr : rc S (rc S (sN S)) = rc S (sN S) := by
      have := rc_same A wr.1 (sN S) wr.2 (Nat.le_refl _) (fun k x1 x2 => rc_last A x1 x2)
      omega
    have l77 : lv S (rc S (sN S)) = 77 := by
      by_cases z : lv S (rc S (sN S)) = 1 ∨ lv S (rc S (sN S)) = 77
      · omega
      · have z2 := (A _ wr.1 wr.2).2.2.2.2.2.2.1 z
        have z3 := A.wr (rc S (sN S) - 1) (by omega) (by omega)
        omega
    by_cases z : lesser S l (sN S) = 0
    · exact z
    · exfalso
      obtain ⟨w1, w2, w3, w4⟩ := lesser_is S (l : Int) (sN S) z
      have le := lesser_le S (l : Int) (sN S)
      by_cases y : rc S (sN S) ≤ lesser S l (sN S)
      · by_cases y2 : rc S (sN S) = lesser S l (sN S)
        · rw [← y2] at w3; exact w3 l77
        · have y3 : rc S (lesser S l (sN S)) = rc S (sN S) := by
            have m1 := rc_mono A (sN S) (lesser S l (sN S)) (by omega) le (Nat.le_refl _)
            have m2 := rc_mono A (lesser S l (sN S)) (rc S (sN S)) wr.1 (by omega) le
            omega
          have nl := rc_last A (k := lesser S l (sN S)) (by omega) le
          have wl2 := (A _ (by omega) le).1
          have := (A _ (by omega) le).2.2.2.2.2.2.2.1 (Or.inl (by omega))
          rw [y3, l77] at this
          cases this
      · exact (w4 (rc S (sN S)) (by omega) wr.2).2.1 l77
theorem m_named (M : RM h S m) (W : WA S) (hQ : Q (.inl (some (.inl (nI (if 3 ≤ us S (lastNN S (sN S)) ∧ us S (lastNN S (sN S)) ≤ 8 ∧ ¬ lastNN S (sN S) = 0 then lastNN S (sN S) else 0))))) h) : jM g mX10_named [.inr (.inr (some m))] h 0 0 Q := by
  have hN := W.n
  have F := W.1
  have h26 : ∀ c, c ≤ sN S → lastNN S (sN S) = c → VX10_named_26 g m (nI c) h 0 0 Q := by
    intro c hc e
    unfold VX10_named_26
    rw [le0 (by omega)]
    rw [e] at hQ
    refine ⟨fun q => ?_, fun q => ?_⟩
    · rw [if_neg (by omega)] at hQ; exact hQ
    · obtain ⟨c1, c2, c3, c4⟩ := M.aus (i := c) (by omega) (by omega)
      have hu := F.us c
      have z3 : nI (us S c) < 3 ↔ us S c < 3 := nI_ltI (b := 3) (by omega) (by decide)
      have z8 : (8 : Int32) < nI (us S c) ↔ 8 < us S c := nI_ltI (a := 8) (by decide) (by omega)
      refine ⟨M.t, c1, c2, c3, ?_⟩
      rw [c4, z3, z8]
      refine ⟨fun q2 => ?_, fun q2 => ⟨fun q3 => ?_, fun q3 => ?_⟩⟩
      · rw [if_neg (by omega)] at hQ; exact hQ
      · rw [if_neg (by omega)] at hQ; exact hQ
      · rw [if_pos (by omega)] at hQ; exact hQ
  have loop : ∀ c, c ≤ sN S → lastNN S c = lastNN S (sN S) → jG g mX10_named 5 [(0, .inr (.inr (some m))), (1, .inl (nI c))] [] h 0 0 Q := by
    intro c
    induction c with
    | zero =>
      intro hc e
      exact vX10_named_5 ⟨fun _ => h26 0 hc e.symm, fun q => absurd (by decide) q⟩
    | succ c ih =>
      intro hc e
      obtain ⟨c1, c2, c3, c4⟩ := M.alv (i := c + 1) (by omega) (by omega)
      have z88 : nI (lv S (c + 1)) = 88 ↔ lv S (c + 1) = 88 := nI_eq (b := 88) (by have := F.lv (c + 1); omega) (by decide)
      have e2 : lastNN S (c + 1) = if lv S (c + 1) = 88 then lastNN S c else c + 1 := rfl
      rw [e2] at e
      refine vX10_named_5 ?_
      unfold VX10_named_5
      rw [le0 (by omega), c4, z88, pk_m1]
      refine ⟨fun q => by omega, fun q => ⟨M.t, c1, c2, c3, fun q2 => h26 (c + 1) hc ?_, fun q2 => ih (by omega) ?_⟩⟩
      · rw [if_neg q2] at e; exact e.symm
      · rw [if_pos q2] at e; exact e
  refine eX10_named ⟨M.t, ?_⟩
  rw [M.many]
  exact loop (sN S) (Nat.le_refl _) rfl
end Mod3
