/-! the reference: holds -/
section ModT
variable {g : jg} {h h' h1 : jh} {S : sg} {m : Nat} {Q : jq}
theorem m_holds56 (M : RM h S m) (W : WA S) {i : Nat} {v : Int64} (i1 : 1 ≤ i) (i2 : i ≤ sN S) (e0 : ji h 512 m = 0) (ev : jl h 547 m = v) (hQ : Q (.inl (some (.inl (jb (scn S i v))))) h) : jG g mX10_holds 56 [(0, .inr (.inr (some m))), (1, .inl (nI i)), (2, .inl 0), (3, .inl 0)] [] h 0 0 Q := by
  have hN := W.n
  have g8 : rg S i ≤ 8 := W.1.2.2.2.2.2.2.2.2.2.1 i
  obtain ⟨r1, r2, r3, r4⟩ := M.arg i1 (by omega)
  obtain ⟨p1, p2, p3⟩ := M.s.p 18 (by decide) (by decide)
  obtain ⟨q1, q2, q3⟩ := M.s.p 19 (by decide) (by decide)
  have x1 : jr h 531 m = some (m + 18) := p1
  have x2 : jn h (m + 18) = 968 := p3
  have x3 : jt h (m + 18) = 20 := p2
  have y1 : jr h 532 m = some (m + 19) := q1
  have y2 : jn h (m + 19) = 968 := q3
  have y3 : jt h (m + 19) = 20 := q2
  have loop : ∀ d k (fl : Bool), k + d = 8 → (fl || rany (fun k => decide ((rf S k i).toInt ≤ v.toInt ∧ v.toInt ≤ (rt S k i).toInt)) k (rg S i - k)) = scn S i v → jG g mX10_holds 56 [(0, .inr (.inr (some m))), (1, .inl (nI i)), (2, .inl (jb fl)), (3, .inl (nI k))] [] h 0 0 Q := by
    intro d
    induction d with
    | zero =>
      intro k fl e eq
      have ek : k = 8 := by omega
      subst ek
      have e8 : rg S i - 8 = 0 := by omega
      rw [e8] at eq
      have eq' : (fl || false) = scn S i v := eq
      rw [Bool.or_false] at eq'
      refine vX10_holds_56 ⟨fun _ => ⟨jb_01 fl, ?_⟩, fun c => absurd (by decide) c⟩
      rw [eq']; exact hQ
    | succ d ih =>
      intro k fl e eq
      have z8 : (8 : Int32) ≤ nI k ↔ 8 ≤ k := nI_leI (a := 8) (by decide) (by omega)
      refine vX10_holds_56 ?_
      unfold VX10_holds_56
      rw [z8, jb_0, r4, nI_leI (by omega) (by omega), nI_1]
      refine ⟨fun c => by omega, fun _ => ⟨M.t, fun c => absurd e0 c, fun _ => ⟨fun c => ?_, fun c => ⟨r1, r2, r3, fun c2 => ?_, fun c2 => ?_⟩⟩⟩⟩
      · have c' : fl = true := by simpa using c
        rw [c', Bool.true_or] at eq
        exact ih (k + 1) true (by omega) (by rw [Bool.true_or]; exact eq)
      · have z1 : rg S i - k = 0 := by omega
        have z2 : rg S i - (k + 1) = 0 := by omega
        rw [c, z1] at eq
        exact ih (k + 1) false (by omega) (by rw [z2]; exact eq)
      · have ei : 8 * nI i - 8 + nI k = nI (8 * i - 8 + k) := by
          rw [show (8 : Int32) = nI 8 from rfl, pk_mul, pk_sub (by omega), nI_add]
        obtain ⟨f1, f2⟩ := M.2.2.2.2.2.2.2.1 i k i1 (by omega) (by omega)
        obtain ⟨n, hn⟩ : ∃ n, rg S i - k = n + 1 := ⟨rg S i - k - 1, by omega⟩
        have hn2 : rg S i - (k + 1) = n := by omega
        rw [c, Bool.false_or, hn] at eq
        have eq' : (decide ((rf S k i).toInt ≤ v.toInt ∧ v.toInt ≤ (rt S k i).toInt) || rany (fun k => decide ((rf S k i).toInt ≤ v.toInt ∧ v.toInt ≤ (rt S k i).toInt)) (k + 1) n) = scn S i v := eq
        have l1 : v < (rf S k i).toInt64 ↔ v.toInt < (rf S k i).toInt := by rw [Int64.lt_iff_toInt_lt, Int32.toInt_toInt64]
        have l2 : (rt S k i).toInt64 < v ↔ (rt S k i).toInt < v.toInt := by rw [Int64.lt_iff_toInt_lt, Int32.toInt_toInt64]
        rw [ei, x1, jd_s, x2, y1, jd_s, y2, nI_clamp (n := 8 * i - 8 + k) (by omega), f1, f2, ev, l1, l2]
        refine ⟨jsn, x3, vp_in_nI (by omega) (by decide), fun c3 => ?_, fun c3 => ⟨jsn, y3, vp_in_nI (by omega) (by decide), fun c4 => ?_, fun c4 => ?_⟩⟩
        · rw [decide_eq_false (by omega)] at eq'
          exact ih (k + 1) false (by omega) (by rw [hn2]; exact eq')
        · rw [decide_eq_false (by omega)] at eq'
          exact ih (k + 1) false (by omega) (by rw [hn2]; exact eq')
        · rw [decide_eq_true (by omega), Bool.true_or] at eq'
          exact ih (k + 1) true (by omega) (by rw [Bool.true_or]; exact eq')
  exact loop 8 0 false (by decide) (by rw [Bool.false_or]; rfl)
theorem m_holds (M : RM h S m) (W : WA S) {u : Int32} (hQ : ∀ v, shol S u = .inl v → ∀ h', RM h' S m → FMb m h h' → ji h' 512 m = 0 → Q (.inl (some (.inl (jb v)))) h') (hX : ∀ k, shol S u = .inr k → ∀ h', RM h' S m → FMb m h h' → ji h' 512 m = nI k → Q (.inl (some (.inl 0))) h') : jM g mX10_holds [.inr (.inr (some m)), .inl u] h 0 0 Q := by
  have hN := W.n
  have F := W.1
  have le := fnd_le S u hN
  have Wh := WH_of W.1 W.2.1 W.2.2.1 W.2.2.2.2.2.1
  have thr : ∀ k (h2 h3 : jh), k = 1 ∨ k = 2 → shol S u = .inr k → RM h2 S m → FMb m h h2 → h3 = jsi h2 512 m (nI k) → jG g mX10_holds 56 [(0, .inr (.inr (some m))), (1, .inl u), (2, .inl 0), (3, .inl 0)] [] h3 0 0 Q := by
    intro k h2 h3 hk es M2 f2 e3
    have M3 : RM h3 S m := by rw [e3]; exact M2.th
    have e12 : ji h3 512 m = nI k := by rw [e3, ji_si, if_pos ⟨rfl, rfl⟩]
    have ne : ¬ ji h3 512 m = 0 := by
      rw [e12]
      rcases hk with w | w <;> rw [w] <;> decide
    exact vX10_holds_56 ⟨fun c => absurd c (by decide), fun _ => ⟨M3.t, fun _ => ⟨Or.inl rfl, hX k es h3 M3 (f2.trans (FMb.si e3 (by decide))) e12⟩, fun c => absurd c ne⟩⟩
  refine eX10_holds ⟨M.t, m_is M hN ?_⟩
  rw [jki_i, jb_0, M.ld W]
  refine ⟨fun c => ⟨M.t, fun h2 e2 => thr 1 h h2 (Or.inl rfl) ?_ M FMb.rf e2⟩, fun c => ?_⟩
  · have hf : fnd S u = 0 := by simpa using c
    exact if_pos (Or.inl hf)
  · have hf : ¬ fnd S u = 0 := by simpa using c
    have eu := fnd_eq hN hf
    have es : shol S u = if ¬ lv S (fnd S u) = 88 ∨ nam S (fnd S u) = 0 then .inr 1 else if laid S = 0 then .inr 2 else match rdn S (bv S) (nam S (fnd S u)) with
        | none => .inr 2
        | some v => .inl (scn S (fnd S u) v) := by
      unfold shol
      by_cases q : ¬ lv S (fnd S u) = 88 ∨ nam S (fnd S u) = 0
      · rw [if_pos (Or.inr q), if_pos q]
      · rw [if_neg (fun w => by rcases w with w | w; exact hf w; exact q w), if_neg q]; rfl
    generalize hi : fnd S u = i at *
    subst eu
    have i1 : 1 ≤ i := by omega
    obtain ⟨a1, a2, a3, a4⟩ := M.alv i1 (by omega)
    obtain ⟨b1, b2, b3, b4⟩ := M.apa i1 (by omega)
    have wl := F.lv i
    have e88 : nI (lv S i) = 88 ↔ lv S i = 88 := nI_eq (b := 88) (by omega) (by decide)
    rw [a4, e88, b4]
    refine ⟨M.t, a1, a2, a3, fun c8 => ⟨fun l => fun h2 e2 => thr 2 h h2 (Or.inr rfl) ?_ M FMb.rf e2, fun l => ⟨b1, b2, b3, ?_⟩⟩, fun c8 => fun h2 e2 => thr 1 h h2 (Or.inl rfl) (by rw [es, if_pos (Or.inl c8)]) M FMb.rf e2⟩
    · have A := W.2.1 i i1 le
      have np : nam S i = pa S i := if_pos c8
      have n0 : ¬ nam S i = 0 := by
        have := (A.2.2.2.2.1 c8).1
        omega
      rw [es, if_neg (by omega), if_pos l]
    · have A := W.2.1 i i1 le
      have np : nam S i = pa S i := if_pos c8
      have n0 : ¬ nam S i = 0 := by
        have := (A.2.2.2.2.1 c8).1
        omega
      obtain ⟨w1, w2, w3, w4, w5, w6, w7⟩ := Wh i i1 le n0
      obtain ⟨t1, t2⟩ := W.tt l
      rw [if_neg (by omega), if_neg l] at es
      have n6 : ¬ lv S (nam S i) = 66 := by
        intro q
        have A2 := W.2.1 (nam S i) (by omega) w1
        have ok := of_decide_eq_true A2.2.1
        omega
      have ln' := W.li (i := nam S i) (by omega) w1 w6 n6
      rw [← np]
      refine m_says M W l (by omega) w1 ln' ⟨w2, w3⟩ ⟨w4, w5⟩ (w7 t2) (fun h2 v ev M2 f2 j2 => ?_) (fun ev h2 M2 f2 => ?_)
      · rw [ev] at es
        have es' : shol S (nI i) = .inl (scn S i v) := es
        rw [jki_i]
        refine ⟨fun _ => ⟨M2.t, fun h3 e3 => ?_⟩, fun w => absurd w (by decide)⟩
        have M3 : RM h3 S m := by rw [e3]; exact M2.th
        have e12 : ji h3 512 m = 0 := by rw [e3, ji_si, if_pos ⟨rfl, rfl⟩]
        have j3 : jl h3 547 m = v := by rw [e3]; exact j2
        exact m_holds56 M3 W i1 le e12 j3 (hQ _ es' h3 M3 (f2.trans (FMb.si e3 (by decide))) e12)
      · rw [ev] at es
        rw [jki_i]
        exact ⟨fun w => absurd rfl w, fun _ => ⟨M2.t, fun h3 e3 => thr 2 h2 h3 (Or.inr rfl) es M2 f2 e3⟩⟩
end ModT
