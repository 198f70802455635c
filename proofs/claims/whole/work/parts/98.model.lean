/-! the reference reads digits, and holds -/
section ModQ
variable {g : jg} {h h' h1 : jh} {S : sg} {m : Nat} {Q : jq}
theorem m_isDigit {x : Int32} (hQ : Q (.inl (some (.inl (jb (decide (48 ≤ x.toInt ∧ x.toInt ≤ 57)))))) h) : jM g mX10_isDigit [.inr (.inr (some m)), .inl x] h 0 0 Q := by
  have q1 := jq_t hQ
  have q0 := jq_f hQ
  have z1 : x < 48 ↔ x.toInt < 48 := by rw [Int32.lt_iff_toInt_lt]; rfl
  have z2 : (57 : Int32) < x ↔ 57 < x.toInt := by rw [Int32.lt_iff_toInt_lt]; rfl
  refine eX10_isDigit ?_
  unfold VX10_isDigit_0
  rw [z1, z2]
  exact ⟨fun c => q0 (decide_eq_false (by omega)), fun c => ⟨fun c2 => q0 (decide_eq_false (by omega)), fun c2 => q1 (decide_eq_true (by omega))⟩⟩
/-- one digit -/
theorem m_digit (M : RM h S m) (W : WA S) (hd : ¬ laid S = 0) {i p n x s acc : Nat} {neg : Bool} (i1 : 1 ≤ i) (i2 : i ≤ sN S) (hx : x < n) (hp : p + n ≤ tot S) (ej : jl h 547 m = nL acc) (hs : x = s → us S i ≤ 4)
    (hX : (dgo (bv S) p s x < 48 ∨ 57 < dgo (bv S) p s x) → Q (.inl (some (.inl 0))) h)
    (hQ : ¬ (dgo (bv S) p s x < 48 ∨ 57 < dgo (bv S) p s x) → ∀ h2, h2 = jsl h 547 m (nL (acc * 10 + dgo (bv S) p s x - 48)) → jG g mX10_says 145 [(0, .inr (.inr (some m))), (1, .inl (nI i)), (2, .inl (nI p)), (3, .inl (nI n)), (4, .inl (nI s)), (5, .inl (jb (if x = s ∧ 57 < ob (bv S) (p + x) then true else neg))), (6, .inl (nI (x + 1)))] [] h2 0 0 Q) (hsn : s < 2 ^ 31) : jG g mX10_says 145 [(0, .inr (.inr (some m))), (1, .inl (nI i)), (2, .inl (nI p)), (3, .inl (nI n)), (4, .inl (nI s)), (5, .inl (jb neg)), (6, .inl (nI x))] [] h 0 0 Q := by
  have hN := W.n
  obtain ⟨t1, t2⟩ := W.tt hd
  have ol := ob_lt (bv S) (p + x)
  obtain ⟨a1, a2, a3, a4⟩ := m_byte M W hd (k := p + x) (by omega)
  obtain ⟨u1, u2, u3, u4⟩ := M.aus i1 (by omega)
  have wu := W.1.us i
  have le4 : nI (us S i) ≤ 4 ↔ us S i ≤ 4 := nI_leI (b := 4) (by omega) (by decide)
  have es : nI x = nI s ↔ x = s := nI_eq (by omega) hsn
  have h241 : ∀ (o' : Nat) (neg' : Bool), o' = dgo (bv S) p s x → neg' = (if x = s ∧ 57 < ob (bv S) (p + x) then true else neg) → VX10_says_241 g m (nI i) (nI p) (nI n) (nI s) (jb neg') (nI x) (nI o') h 0 0 Q := by
    intro o' neg' eo en
    have o3 : o' < 256 := by rw [eo]; unfold dgo; split <;> omega
    refine ⟨M.t, m_isDigit ?_⟩
    rw [jki_i, jb_0, nI_toInt (by omega)]
    refine ⟨fun c => ⟨M.t, fun h6 e6 => ?_⟩, fun c => hX ?_⟩
    · have c' : 48 ≤ (o' : Int) ∧ (o' : Int) ≤ 57 := by simpa using c
      rw [ej, nI_toInt64 (by omega), show (10 : Int64) = nL 10 from rfl, nL_mul, nL_add, show (48 : Int64) = nL 48 from rfl, nL_sub (by omega), Nat.mul_comm 10 acc, eo] at e6
      have := hQ (by rw [← eo]; omega) h6 e6
      rw [nI_1, en]; exact this
    · have c' : ¬ (48 ≤ (o' : Int) ∧ (o' : Int) ≤ 57) := of_decide_eq_false c
      rw [← eo]; omega
  have h216 : VX10_says_216 g m (nI i) (nI p) (nI n) (nI s) (jb neg) (nI x) (nI (ob (bv S) (p + x))) h 0 0 Q := by
    unfold VX10_says_216
    rw [es]
    refine ⟨fun c => h241 _ neg ?_ ?_, fun c => ⟨M.t, m_isDigit ?_⟩⟩
    · unfold dgo; rw [if_neg (fun z => c z.1)]
    · rw [if_neg (fun z => c z.1)]
    · have e64 : (nI (ob (bv S) (p + x)) - 64).toInt = (ob (bv S) (p + x) : Int) - 64 := pk_sub_toInt (b := 64) (by omega) (by decide)
      rw [jki_i, jb_0, e64]
      refine ⟨fun q => ?_, fun q => ?_⟩
      · have q' := of_decide_eq_false q
        by_cases c4 : 57 < ob (bv S) (p + x)
        · -- neither
          refine ⟨M.t, m_isDigit ?_⟩
          rw [jki_i, jb_0, nI_toInt (by omega)]
          refine ⟨fun z => absurd (by rw [decide_eq_false_iff_not]; omega) z, fun _ => hX ?_⟩
          unfold dgo; rw [if_pos ⟨c, c4⟩]; omega
        · refine h241 _ neg ?_ ?_
          · unfold dgo; rw [if_neg (fun z => c4 z.2)]
          · rw [if_neg (fun z => c4 z.2)]
      · have q' : 48 ≤ (ob (bv S) (p + x) : Int) - 64 ∧ (ob (bv S) (p + x) : Int) - 64 ≤ 57 := by simpa using q
        have e6 : nI (ob (bv S) (p + x)) + (-64) = nI (ob (bv S) (p + x) - 64) := by
          have e7 : (-64 : Int32) = -(nI 64) := by decide
          rw [← pk_sub (by omega : 64 ≤ ob (bv S) (p + x)), e7, Int32.sub_eq_add_neg]
        rw [e6]
        refine h241 _ true ?_ ?_
        · unfold dgo; rw [if_pos ⟨c, by omega⟩]
        · rw [if_pos ⟨c, by omega⟩]
  refine vX10_says_145 ⟨fun c => absurd c (by rw [nI_leI (by omega) (by omega)]; omega), fun _ => ⟨M.t, ?_⟩⟩
  rw [nI_add, a4, b8_255 _ ol, es, u4, le4]
  exact ⟨a1, a2, a3, fun _ => h216, fun c => ⟨u1, u2, u3, fun _ => h216, fun c2 => absurd (hs c) c2⟩⟩
end ModQ
section ModR
variable {g : jg} {h h' h1 : jh} {S : sg} {m : Nat} {Q : jq}
/-- all digits -/
theorem m_alldig (M : RM h S m) (W : WA S) (hd : ¬ laid S = 0) {i p n s s' off : Nat} {neg : Bool} {R0 : Option (Nat × Bool)} (i1 : 1 ≤ i) (i2 : i ≤ sN S) (hn : off + dg S i ≤ n) (hp : p + n ≤ tot S) (hsn : s < 2 ^ 31) (ej : jl h 547 m = nL 0) (hs : ∀ k, k < dg S i → off + k = s → us S i ≤ 4) (hss : ∀ k, k < dg S i → (off + k = s ↔ k = s')) (e0 : dgn (bv S) (p + off) s' (dg S i) 0 0 neg = R0)
    (hX : R0 = none → ∀ h', RM h' S m → FMb m h h' → Q (.inl (some (.inl 0))) h')
    (hQ : ∀ acc neg' h', R0 = some (acc, neg') → RM h' S m → FMb m h h' → jl h' 547 m = nL acc → jG g mX10_says 145 [(0, .inr (.inr (some m))), (1, .inl (nI i)), (2, .inl (nI p)), (3, .inl (nI n)), (4, .inl (nI s)), (5, .inl (jb neg')), (6, .inl (nI (off + dg S i)))] [] h' 0 0 Q) : jG g mX10_says 145 [(0, .inr (.inr (some m))), (1, .inl (nI i)), (2, .inl (nI p)), (3, .inl (nI n)), (4, .inl (nI s)), (5, .inl (jb neg)), (6, .inl (nI off))] [] h 0 0 Q := by
  have loop : ∀ d k acc neg (h1 : jh), k + d = dg S i → RM h1 S m → FMb m h h1 → jl h1 547 m = nL acc → dgn (bv S) (p + off) s' d k acc neg = R0 → jG g mX10_says 145 [(0, .inr (.inr (some m))), (1, .inl (nI i)), (2, .inl (nI p)), (3, .inl (nI n)), (4, .inl (nI s)), (5, .inl (jb neg)), (6, .inl (nI (off + k)))] [] h1 0 0 Q := by
    intro d
    induction d with
    | zero =>
      intro k acc neg h1 e M1 f1 e1 eq
      have ek : k = dg S i := by omega
      subst ek
      exact hQ acc neg h1 eq.symm M1 f1 e1
    | succ d ih =>
      intro k acc neg h1 e M1 f1 e1 eq
      have dn : dgn (bv S) (p + off) s' (d + 1) k acc neg = if dgo (bv S) (p + off) s' k < 48 ∨ 57 < dgo (bv S) (p + off) s' k then none else dgn (bv S) (p + off) s' d (k + 1) (acc * 10 + dgo (bv S) (p + off) s' k - 48) (if k = s' ∧ 57 < ob (bv S) (p + off + k) then true else neg) := rfl
      have ea : p + off + k = p + (off + k) := by omega
      have kk := hss k (by omega)
      have eo : dgo (bv S) (p + off) s' k = dgo (bv S) p s (off + k) := by
        unfold dgo
        rw [ea]
        simp only [kk]
      have en : (if k = s' ∧ 57 < ob (bv S) (p + (off + k)) then true else neg) = (if off + k = s ∧ 57 < ob (bv S) (p + (off + k)) then true else neg) := by simp only [kk]
      rw [dn, eo, ea, en] at eq
      refine m_digit M1 W hd i1 i2 (by omega) hp e1 (hs k (by omega)) (fun c => ?_) (fun c h2 e2 => ?_) hsn
      · rw [if_pos c] at eq
        exact hX eq.symm h1 M1 f1
      · rw [if_neg c] at eq
        refine ih (k + 1) _ _ h2 (by omega) (M1.sl e2) (f1.trans (FMb.sl e2 (by decide))) ?_ eq
        rw [e2, jl_sl, if_pos ⟨rfl, rfl⟩]
  exact loop (dg S i) 0 0 neg h (by omega) M FMb.rf ej e0
/-- it ends -/
theorem m_saysEnd (M : RM h S m) (W : WA S) {i p n s acc : Nat} {neg : Bool} (ej : jl h 547 m = nL acc) (hQ : ∀ h', RM h' S m → FMb m h h' → jl h' 547 m = (if neg = true then -nL acc else nL acc) → Q (.inl (some (.inl 1))) h') : jG g mX10_says 145 [(0, .inr (.inr (some m))), (1, .inl (nI i)), (2, .inl (nI p)), (3, .inl (nI n)), (4, .inl (nI s)), (5, .inl (jb neg)), (6, .inl (nI n))] [] h 0 0 Q := by
  refine vX10_says_145 ⟨fun _ => ?_, fun c => absurd (Int32.le_refl _) c⟩
  rw [jb_0, ej]
  refine ⟨fun c => ⟨M.t, fun h2 e2 => hQ h2 (M.sl e2) (FMb.sl e2 (by decide)) ?_⟩, fun c => ⟨M.t, fun h2 e2 => hQ h2 (M.sl e2) (FMb.sl e2 (by decide)) ?_⟩⟩
  · rw [c, if_neg (by decide), e2, jl_sl, if_pos ⟨rfl, rfl⟩]
  · have c' : neg = true := by simpa using c
    rw [c', if_pos rfl, e2, jl_sl, if_pos ⟨rfl, rfl⟩]
/-- the sign that stands alone -/
theorem m_sign (M : RM h S m) (W : WA S) (hd : ¬ laid S = 0) {i p n s : Nat} {neg : Bool} (i1 : 1 ≤ i) (i2 : i ≤ sN S) (hu : ¬ us S i ≤ 4) (hs : s < n) (hp : p + n ≤ tot S)
    (hX : ¬ ob (bv S) (p + s) = 43 ∧ ¬ ob (bv S) (p + s) = 45 → Q (.inl (some (.inl 0))) h)
    (hQ : ¬ (¬ ob (bv S) (p + s) = 43 ∧ ¬ ob (bv S) (p + s) = 45) → jG g mX10_says 145 [(0, .inr (.inr (some m))), (1, .inl (nI i)), (2, .inl (nI p)), (3, .inl (nI n)), (4, .inl (nI s)), (5, .inl (jb (decide (ob (bv S) (p + s) = 45)))), (6, .inl (nI (s + 1)))] [] h 0 0 Q) : jG g mX10_says 145 [(0, .inr (.inr (some m))), (1, .inl (nI i)), (2, .inl (nI p)), (3, .inl (nI n)), (4, .inl (nI s)), (5, .inl (jb neg)), (6, .inl (nI s))] [] h 0 0 Q := by
  have hN := W.n
  obtain ⟨t1, t2⟩ := W.tt hd
  have ol := ob_lt (bv S) (p + s)
  obtain ⟨a1, a2, a3, a4⟩ := m_byte M W hd (k := p + s) (by omega)
  obtain ⟨u1, u2, u3, u4⟩ := M.aus i1 (by omega)
  have wu := W.1.us i
  have le4 : nI (us S i) ≤ 4 ↔ us S i ≤ 4 := nI_leI (b := 4) (by omega) (by decide)
  have z43 : nI (ob (bv S) (p + s)) = 43 ↔ ob (bv S) (p + s) = 43 := nI_eq (b := 43) (by omega) (by decide)
  have z45 : nI (ob (bv S) (p + s)) = 45 ↔ ob (bv S) (p + s) = 45 := nI_eq (b := 45) (by omega) (by decide)
  have h199 : (ob (bv S) (p + s) = 43 ∨ ob (bv S) (p + s) = 45) → VX10_says_199 g m (nI i) (nI p) (nI n) (nI s) (nI s) (nI (ob (bv S) (p + s))) h 0 0 Q := by
    intro w
    have hq := hQ (by omega)
    unfold VX10_says_199
    rw [z45, nI_1]
    refine ⟨fun c => ?_, fun c => ?_⟩
    · rw [decide_eq_false c] at hq; exact hq
    · rw [decide_eq_true c] at hq; exact hq
  refine vX10_says_145 ⟨fun c => absurd c (by rw [nI_leI (by omega) (by omega)]; omega), fun _ => ⟨M.t, ?_⟩⟩
  rw [nI_add, a4, b8_255 _ ol, u4, le4, z43, z45]
  exact ⟨a1, a2, a3, fun c => absurd rfl c, fun _ => ⟨u1, u2, u3, fun c => absurd c hu, fun _ => ⟨fun c => h199 (Or.inl c), fun c => ⟨fun c2 => h199 (Or.inr c2), fun c2 => hX ⟨c, c2⟩⟩⟩⟩⟩
end ModR
