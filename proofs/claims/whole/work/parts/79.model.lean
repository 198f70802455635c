/-! the reference: clause, the contract; redefines, external, depending, checks -/
section Mod7
variable {g : jg} {h h' : jh} {S S' : sg} {m : Nat} {Q : jq}
theorem fnd_eq {x : Int32} (hN : sN S ≤ 120) (hf : ¬ fnd S x = 0) : x = nI (fnd S x) := fnd_in hN hf
theorem m_clause (M : RM h S m) (W : WA S) {u k a b : Int32} (hQ : ∀ h', RM h' (scla S u k a b).2 m → FMb m h h' → Q (.inl (some (.inl (scla S u k a b).1))) h') : jM g mX10_clause [.inr (.inr (some m)), .inl u, .inl k, .inl a, .inl b] h 0 0 Q := by
  have hN := W.n
  have F := W.1
  have A := W.2.1
  refine eX10_clause ⟨M.t, ?_⟩
  intro h1 e1
  have M1 : RM h1 S m := by rw [e1]; exact M.th
  have f1 : FMb m h h1 := FMb.si e1 (by decide)
  have same : ∀ r : Int32, scla S u k a b = (r, S) → Q (.inl (some (.inl r))) h1 := fun r e => by
    have := hQ h1 (by rw [e]; exact M1) f1
    rw [e] at this; exact this
  have hu := fnd_le S u hN
  have ha := fnd_le S a hN
  have hb := fnd_le S b hN
  have h38 : ¬ fnd S u = 0 → (k = 5 → ¬ fnd S a = 0 ∧ ¬ fnd S b = 0) → VX10_clause_38 g m u k a b h1 0 0 Q := by
    intro u0 h5
    have eu := fnd_eq hN u0
    have c1 : ¬ (fnd S u = 0 ∨ (k = 5 ∧ (fnd S a = 0 ∨ fnd S b = 0))) := fun q => by
      rcases q with q | ⟨q, q2⟩
      · exact u0 q
      · have := h5 q
        rcases q2 with q2 | q2
        · exact this.1 q2
        · exact this.2 q2
    refine m_isClause ?_
    rw [jki_i, jb_0]
    refine ⟨fun c => ?_, fun c => same _ (by unfold scla; rw [if_neg c1, if_pos c])⟩
    have ok : okC k.toInt a.toInt b.toInt = true := by simpa using c
    have okc := of_decide_eq_true ok
    have es : scla S u k a b = (match stell S (fnd S u) k a b with
      | none => ((0 : Int32), S)
      | some S' => ((1 : Int32), S')) := by
      unfold scla
      rw [if_neg c1, if_neg (by rw [ok]; decide)]; rfl
    generalize hi : fnd S u = i at *
    have i1 : 1 ≤ i := by omega
    have tell : ∀ may : Bool, may = (stell S i k a b).isSome → VX10_clause_304 g m (nI i) k a b (jb may) h1 0 0 Q := fun may hm => m_tell M1 W i1 hu ok (fun q => ⟨fnd_eq hN (h5 q).1, fnd_eq hN (h5 q).2⟩) hm (fun q => same _ (by rw [es, q])) (fun S' q h' R' F' => by
      rw [q] at es
      have := hQ h' (by rw [es]; exact R') (f1.trans F')
      rw [es] at this; exact this)
    rw [eu]
    have q2 : k = 2 ↔ k.toInt = 2 := by rw [← Int32.toInt_inj]; rfl
    have q3 : k = 3 ↔ k.toInt = 3 := by rw [← Int32.toInt_inj]; rfl
    have q4 : k = 4 ↔ k.toInt = 4 := by rw [← Int32.toInt_inj]; rfl
    have q0 : k = 0 ↔ k.toInt = 0 := by rw [← Int32.toInt_inj]; rfl
    have q1 : k = 1 ↔ k.toInt = 1 := by rw [← Int32.toInt_inj]; rfl
    have q5 : k = 5 ↔ k.toInt = 5 := by rw [← Int32.toInt_inj]; rfl
    have some_if : ∀ (c : Prop) [Decidable c] (X : sg), (if c then some X else none : Option sg).isSome = decide c := fun c _ X => by
      by_cases q : c
      · rw [if_pos q, decide_eq_true q]; rfl
      · rw [if_neg q, decide_eq_false q]; rfl
    have st0 : k = 0 → (stell S i k a b).isSome = okT S i false := fun q => by
      unfold stell
      rw [if_pos q, some_if]
      exact Bool.decide_eq_true
    have st1 : k = 1 → (stell S i k a b).isSome = okT S i true := fun q => by
      unfold stell
      rw [if_neg (by rw [q]; decide), if_pos q, some_if]
      exact Bool.decide_eq_true
    have tabl : ∀ d : Bool, (k = 0 → d = false) → (k = 1 → d = true) → (k = 0 ∨ k = 1) → (jt h1 m = 9) ∧ jM g mX10_mayBeTable [.inr (.inr (some m)), .inl (nI i), .inl (jb d)] h1 0 0 (jki (fun (r98 : Int32) (h99 : jh) => VX10_clause_304 g (m) (nI i) (k) (a) (b) (r98) h99 0 0 Q) (fun e h9 => Q (.inr e) h9)) := fun d d0 d1 dk => by
      refine ⟨M1.t, m_mayBeTable M1 W i1 hu ?_⟩
      rw [jki_i]
      refine tell _ ?_
      rcases dk with dk | dk
      · rw [st0 dk, d0 dk]
      · rw [st1 dk, d1 dk]
    refine ⟨fun z => ⟨fun z2 => tabl false (fun _ => rfl) (fun q => absurd q z2) (Or.inl z), fun z2 => by rw [z] at z2; exact absurd z2 (by decide)⟩, fun z => ⟨fun z2 => absurd z z2, fun z2 => tabl true (fun q => by rw [z2] at q; exact absurd q (by decide)) (fun _ => rfl) (Or.inr z2)⟩, fun z => ?_, fun z => ?_, fun z => ?_, fun z => ?_⟩
    · -- synchronised
      obtain ⟨a1, a2, a3, a4⟩ := M1.aus i1 (by omega)
      obtain ⟨b1, b2, b3, b4⟩ := M1.asy i1 (by omega)
      have wu := F.us i
      have wy : sy S i ≤ 1 := F.2.2.2.2.2.2.2.2.2.2.2.2.2.2.2.1 i
      have e8 : nI (us S i) < 8 ↔ us S i < 8 := nI_ltI (b := 8) (by omega) (by decide)
      have e11 : (11 : Int32) < nI (us S i) ↔ 11 < us S i := nI_ltI (a := 11) (by decide) (by omega)
      have ey : nI (sy S i) = 0 ↔ sy S i = 0 := nI_eq (b := 0) (by omega) (by decide)
      have st : (stell S i k a b).isSome = decide (8 ≤ us S i ∧ us S i ≤ 11 ∧ sy S i = 0) := by
        unfold stell
        rw [if_neg (by rw [z]; decide), if_neg (by rw [z]; decide), if_pos z, some_if]
      refine ⟨M1.t, a1, a2, a3, ?_⟩
      rw [a4, b4, e8, e11, ey]
      exact ⟨fun w => tell false (by rw [st, decide_eq_false (by omega)]), fun w => ⟨fun w2 => tell false (by rw [st, decide_eq_false (by omega)]), fun w2 => ⟨b1, b2, b3, fun w3 => tell false (by rw [st, decide_eq_false (by omega)]), fun w3 => tell true (by rw [st, decide_eq_true (by omega)])⟩⟩⟩
    · -- a value
      obtain ⟨a1, a2, a3, a4⟩ := M1.aus i1 (by omega)
      obtain ⟨b1, b2, b3, b4⟩ := M1.adg i1 (by omega)
      obtain ⟨c1', c2', c3', c4'⟩ := M1.ava i1 (by omega)
      have wu := F.us i
      have wv : va S i ≤ 1 := F.2.2.2.2.2.2.2.2.2.2.2.2.2.2.2.2.1 i
      have wd := F.dg i
      have e3 : nI (us S i) < 3 ↔ us S i < 3 := nI_ltI (b := 3) (by omega) (by decide)
      have e8 : (8 : Int32) < nI (us S i) ↔ 8 < us S i := nI_ltI (a := 8) (by decide) (by omega)
      have ev : nI (va S i) = 0 ↔ va S i = 0 := nI_eq (b := 0) (by omega) (by decide)
      have st : (stell S i k a b).isSome = decide (okN (us S i) = true ∧ va S i = 0 ∧ aside S i = false ∧ room (dg S i) a.toInt = true) := by
        unfold stell
        rw [if_neg (by rw [z]; decide), if_neg (by rw [z]; decide), if_neg (by rw [z]; decide), if_pos z, some_if]
      have nn : okN (us S i) = true ↔ 3 ≤ us S i ∧ us S i ≤ 8 := by
        unfold okN
        rw [decide_eq_true_iff]; omega
      refine ⟨M1.t, a1, a2, a3, ?_⟩
      rw [a4, e3, e8]
      refine ⟨fun w => tell false (by rw [st, decide_eq_false (fun y => by have := nn.mp y.1; omega)]), fun w => ⟨fun w2 => tell false (by rw [st, decide_eq_false (fun y => by have := nn.mp y.1; omega)]), fun w2 => m_digits ?_⟩⟩
      have hu' := of_decide_eq_true (A i i1 hu).2.1
      have d18 : dg S i ≤ 18 := by omega
      have ndl := nd_le a d18
      have l64 := ndF_small (nab a + 1) (nab a)
      have na' := nab_lt a
      have nd64 : ndF (nab a + 1) (nab a) ≤ 10 := by
        rw [ndF_le _ _ _ (by omega)]; omega
      rw [jki_i, b4, nI_ltI (by omega) (by omega), c4', ev]
      refine ⟨M1.t, b1, b2, b3, fun w3 => tell false ?_, fun w3 => ⟨c1', c2', c3', fun w4 => tell false (by rw [st, decide_eq_false (fun y => w4 y.2.1)]), fun w4 => ?_⟩⟩
      · rw [st, decide_eq_false (fun y => by have := ndl.mpr y.2.2.2; omega)]
      · have lv' := (A i i1 hu).1
        have li : lies S i = true := lies_mk (by omega)
        refine m_aside M1 W i1 hu li ?_
        rw [jki_i, jb_0]
        refine ⟨fun w5 => tell false ?_, fun w5 => tell true ?_⟩
        · rw [st, decide_eq_false (fun y => w5 y.2.2.1)]
        · rw [st, decide_eq_true ⟨nn.mpr (by omega), w4, w5, ndl.mp (by omega)⟩]
    · -- a range
      obtain ⟨a1, a2, a3, a4⟩ := M1.alv i1 (by omega)
      obtain ⟨b1, b2, b3, b4⟩ := M1.arg i1 (by omega)
      have wl := F.lv i
      have wg : rg S i ≤ 8 := F.2.2.2.2.2.2.2.2.2.1 i
      have e88 : nI (lv S i) = 88 ↔ lv S i = 88 := nI_eq (b := 88) (by omega) (by decide)
      have e8 : (8 : Int32) ≤ nI (rg S i) ↔ 8 ≤ rg S i := nI_leI (a := 8) (by decide) (by omega)
      have st : (stell S i k a b).isSome = decide (lv S i = 88 ∧ rg S i < 8) := by
        unfold stell
        rw [if_neg (by rw [z]; decide), if_neg (by rw [z]; decide), if_neg (by rw [z]; decide), if_neg (by rw [z]; decide), if_pos z, some_if]
      refine ⟨M1.t, a1, a2, a3, ?_⟩
      rw [a4, b4, e88, e8]
      exact ⟨fun w => tell false (by rw [st, decide_eq_false (by omega)]), fun w => ⟨b1, b2, b3, fun w2 => tell false (by rw [st, decide_eq_false (by omega)]), fun w2 => tell true (by rw [st, decide_eq_true (by omega)])⟩⟩
    · -- a part
      have k5 : k = 5 := q5.mpr (by omega)
      obtain ⟨a0, b0⟩ := h5 k5
      have ea := fnd_eq hN a0
      have eb := fnd_eq hN b0
      obtain ⟨a1, a2, a3, a4⟩ := M1.alv i1 (by omega)
      obtain ⟨b1, b2, b3, b4⟩ := M1.arn i1 (by omega)
      have wl := F.lv i
      have wn : rn S i ≤ sN S := F.2.2.2.2.2.2.2.2.2.2.2.2.2.1 i
      have e66 : nI (lv S i) = 66 ↔ lv S i = 66 := nI_eq (b := 66) (by omega) (by decide)
      have en : nI (rn S i) = 0 ↔ rn S i = 0 := nI_eq (b := 0) (by omega) (by decide)
      have st : (stell S i k a b).isSome = okPt S i (fnd S a) (fnd S b) := by
        unfold stell
        rw [if_neg (by rw [k5]; decide), if_neg (by rw [k5]; decide), if_neg (by rw [k5]; decide), if_neg (by rw [k5]; decide), if_neg (by rw [k5]; decide), some_if]
        exact Bool.decide_eq_true
      have no : ¬ (lv S i = 66 ∧ rn S i = 0 ∧ (2 ≤ lv S (fnd S a) ∧ lv S (fnd S a) ≤ 49) ∧ rc S (fnd S a) = rc S i ∧ (2 ≤ lv S (fnd S b) ∧ lv S (fnd S b) ≤ 49) ∧ rc S (fnd S b) = rc S i ∧ fnd S a ≤ fnd S b ∧ bel S (fnd S b) (fnd S a) = false) → false = (stell S i k a b).isSome := fun q => by rw [st]; exact (decide_eq_false q).symm
      refine ⟨M1.t, a1, a2, a3, ?_⟩
      rw [a4, b4, e66, en]
      refine ⟨fun w => tell false (no (fun y => w y.1)), fun w => ⟨b1, b2, b3, fun w2 => tell false (no (fun y => w2 y.2.1)), fun w2 => ?_⟩⟩
      rw [ea, eb]
      refine m_isPart M1 W i1 hu (by omega) ha ?_
      rw [jki_i, jb_0, ← ea, ← eb]
      refine ⟨fun w3 => tell false (no (fun y => (of_decide_eq_false w3) ⟨y.2.2.1, y.2.2.2.1⟩)), fun w3 => ⟨M1.t, ?_⟩⟩
      have p1 : (2 ≤ lv S (fnd S a) ∧ lv S (fnd S a) ≤ 49) ∧ rc S (fnd S a) = rc S i := Decidable.byContradiction (fun y => w3 (decide_eq_false y))
      rw [ea, eb]
      refine m_isPart M1 W i1 hu (by omega) hb ?_
      rw [jki_i, jb_0, nI_ltI (by omega) (by omega), ← ea, ← eb]
      refine ⟨fun w4 => tell false (no (fun y => (of_decide_eq_false w4) ⟨y.2.2.2.2.1, y.2.2.2.2.2.1⟩)), fun w4 => ⟨fun w5 => tell false (no (fun y => by omega)), fun w5 => ⟨M1.t, ?_⟩⟩⟩
      have p2 : (2 ≤ lv S (fnd S b) ∧ lv S (fnd S b) ≤ 49) ∧ rc S (fnd S b) = rc S i := Decidable.byContradiction (fun y => w4 (decide_eq_false y))
      rw [ea, eb]
      refine m_below M1 W (by omega) hb (lies_mk (by omega)) (by omega) (by omega) ?_
      rw [jki_i, jb_0, ← ea, ← eb]
      refine ⟨fun w6 => tell false (no (fun y => w6 y.2.2.2.2.2.2.2)), fun w6 => tell true ?_⟩
      rw [st]
      exact (decide_eq_true ⟨w, w2, p1.1, p1.2, p2.1, p2.2, by omega, w6⟩).symm
  refine m_is M1 hN ?_
  rw [jki_i, jb_0]
  refine ⟨fun c => same _ (if_pos (Or.inl (Decidable.not_not.mp (of_decide_eq_false c)))), fun c => ?_⟩
  have u0 : ¬ fnd S u = 0 := of_decide_eq_true (by simpa using c)
  refine ⟨fun c2 => h38 u0 (fun q => absurd q c2), fun c2 => ⟨M1.t, m_is M1 hN ?_⟩⟩
  rw [jki_i, jb_0]
  refine ⟨fun c3 => same _ (if_pos (Or.inr ⟨c2, Or.inl (Decidable.not_not.mp (of_decide_eq_false c3))⟩)), fun c3 => ⟨M1.t, m_is M1 hN ?_⟩⟩
  have a0 : ¬ fnd S a = 0 := of_decide_eq_true (by simpa using c3)
  rw [jki_i, jb_0]
  refine ⟨fun c4 => h38 u0 (fun _ => ⟨a0, of_decide_eq_true (by simpa using c4)⟩), fun c4 => same _ (if_pos (Or.inr ⟨c2, Or.inr (Decidable.not_not.mp (of_decide_eq_false c4))⟩))⟩
end Mod7
