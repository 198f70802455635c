/-! a new reference -/
/-- while it is made: j rows are there -/
def IS (m : Nat) (w : Bool) (hb : jh) (j : Nat) (h : jh) : Prop := jz h = m + 1 + j ∧ jt h m = 9 ∧ HW h ∧ (∀ k, ji h k m = if k = 534 ∧ w = true then 1 else 0) ∧ (∀ c, c < m → Sm hb h c) ∧
  ∀ i, 1 ≤ i → i ≤ j → jr h (mK i) m = some (m + i) ∧ jt h (m + i) = mT i ∧ jn h (m + i) = mN i ∧ ∀ x, jI h (m + i) x = 0 ∧ jL h (m + i) x = 0
section ModU
variable {g : jg} {h h' h1 hb : jh} {S : sg} {m : Nat} {Q : jq}
theorem IS.step {w : Bool} {j : Nat} (I : IS m w hb j h) {t n : Nat} (et : t = mT (j + 1)) (en : n = mN (j + 1)) (e : h1 = jmk h t n) : jt h1 m = 9 ∧ ∀ h2 k, k = mK (j + 1) → h2 = jsr h1 k m (some (jz h)) → IS m w hb (j + 1) h2 := by
  obtain ⟨a1, a2, a3, a4, a5, a6⟩ := I
  refine ⟨by rw [e, jt_mk, if_neg (by omega)]; exact a2, fun h2 k ek e2 => ?_⟩
  refine ⟨by rw [e2, jz_sr, e, jz_mk, a1]; omega, by rw [e2, jt_sr, e, jt_mk, if_neg (by omega)]; exact a2, fun c hc => ?_, fun q => ?_, fun c hc => ?_, fun i i1 i2 => ?_⟩
  · rw [e2, jt_sr, e, jt_mk] at hc
    rw [e2, jz_sr, e, jz_mk]
    by_cases z : c = jz h
    · omega
    · rw [if_neg z] at hc
      have := a3 c hc
      omega
  · rw [e2, ji_sr, e, ji_mk, if_neg (by omega)]; exact a4 q
  · exact (a5 c hc).trans ((Sm.mk e (by omega)).trans (Sm.sr e2 (by omega)))
  · by_cases z : i = j + 1
    · subst z
      have ez : m + (j + 1) = jz h := by omega
      refine ⟨?_, ?_, ?_, fun x => ⟨?_, ?_⟩⟩
      · rw [e2, jr_sr, if_pos ⟨ek.symm, rfl⟩, ez]
      · rw [e2, jt_sr, e, jt_mk, if_pos ez]; exact et
      · rw [e2, jn_sr, e, jn_mk, if_pos ez]; exact en
      · rw [e2, jI_sr, e, jI_mk, if_pos ez]
      · rw [e2, jL_sr, e, jL_mk, if_pos ez]
    · obtain ⟨b1, b2, b3, b4⟩ := a6 i i1 (by omega)
      have ne : ¬ m + i = jz h := by omega
      have nk : ¬ mK i = k := by
        rw [ek]
        unfold mK
        split <;> split <;> omega
      refine ⟨?_, ?_, ?_, fun x => ⟨?_, ?_⟩⟩
      · rw [e2, jr_sr, if_neg (fun z => nk z.1), e, jr_mk, if_neg (by omega)]; exact b1
      · rw [e2, jt_sr, e, jt_mk, if_neg ne]; exact b2
      · rw [e2, jn_sr, e, jn_mk, if_neg ne]; exact b3
      · rw [e2, jI_sr, e, jI_mk, if_neg ne]; exact (b4 x).1
      · rw [e2, jL_sr, e, jL_mk, if_neg ne]; exact (b4 x).2
theorem m_init (hm : jt h m = 9) (hz : jz h = m + 1) (H : HW h) (h0 : ∀ k, ji h k m = 0) (hQ : ∀ h', jz h' = m + 28 → HW h' → (∀ c, c < m → Sm h h' c) → RM h' S0 m → Q (.inl none) h') : jM g mX10_init [.inr (.inr (some m))] h 27 24723 Q := by
  have I : IS m false h 0 h := ⟨hz, hm, H, fun k => by rw [h0 k]; simp, fun c _ => Sm.rf, fun i a b => by omega⟩
  refine eX10_init ?_
  unfold VX10_init_0
  refine ⟨by decide, by decide, fun p0 e0 => ?_⟩
  obtain ⟨t0, s0⟩ := I.step (j := 0) (by decide) (by decide) e0
  refine ⟨t0, fun q0 f0 => ?_⟩
  replace I := s0 q0 _ (by decide) f0
  refine ⟨by decide, by decide, fun p1 e1 => ?_⟩
  obtain ⟨t1, s1⟩ := I.step (j := 1) (by decide) (by decide) e1
  refine ⟨t1, fun q1 f1 => ?_⟩
  replace I := s1 q1 _ (by decide) f1
  refine ⟨by decide, by decide, fun p2 e2 => ?_⟩
  obtain ⟨t2, s2⟩ := I.step (j := 2) (by decide) (by decide) e2
  refine ⟨t2, fun q2 f2 => ?_⟩
  replace I := s2 q2 _ (by decide) f2
  refine ⟨by decide, by decide, fun p3 e3 => ?_⟩
  obtain ⟨t3, s3⟩ := I.step (j := 3) (by decide) (by decide) e3
  refine ⟨t3, fun q3 f3 => ?_⟩
  replace I := s3 q3 _ (by decide) f3
  refine ⟨by decide, by decide, fun p4 e4 => ?_⟩
  obtain ⟨t4, s4⟩ := I.step (j := 4) (by decide) (by decide) e4
  refine ⟨t4, fun q4 f4 => ?_⟩
  replace I := s4 q4 _ (by decide) f4
  refine ⟨by decide, by decide, fun p5 e5 => ?_⟩
  obtain ⟨t5, s5⟩ := I.step (j := 5) (by decide) (by decide) e5
  refine ⟨t5, fun q5 f5 => ?_⟩
  replace I := s5 q5 _ (by decide) f5
  refine ⟨by decide, by decide, fun p6 e6 => ?_⟩
  obtain ⟨t6, s6⟩ := I.step (j := 6) (by decide) (by decide) e6
  refine ⟨t6, fun q6 f6 => ?_⟩
  replace I := s6 q6 _ (by decide) f6
  refine ⟨by decide, by decide, fun p7 e7 => ?_⟩
  obtain ⟨t7, s7⟩ := I.step (j := 7) (by decide) (by decide) e7
  refine ⟨t7, fun q7 f7 => ?_⟩
  replace I := s7 q7 _ (by decide) f7
  refine ⟨by decide, by decide, fun p8 e8 => ?_⟩
  obtain ⟨t8, s8⟩ := I.step (j := 8) (by decide) (by decide) e8
  refine ⟨t8, fun q8 f8 => ?_⟩
  replace I := s8 q8 _ (by decide) f8
  refine ⟨by decide, by decide, fun p9 e9 => ?_⟩
  obtain ⟨t9, s9⟩ := I.step (j := 9) (by decide) (by decide) e9
  refine ⟨t9, fun q9 f9 => ?_⟩
  replace I := s9 q9 _ (by decide) f9
  refine ⟨by decide, by decide, fun p10 e10 => ?_⟩
  obtain ⟨t10, s10⟩ := I.step (j := 10) (by decide) (by decide) e10
  refine ⟨t10, fun q10 f10 => ?_⟩
  replace I := s10 q10 _ (by decide) f10
  refine ⟨by decide, by decide, fun p11 e11 => ?_⟩
  obtain ⟨t11, s11⟩ := I.step (j := 11) (by decide) (by decide) e11
  refine ⟨t11, fun q11 f11 => ?_⟩
  replace I := s11 q11 _ (by decide) f11
  refine ⟨by decide, by decide, fun p12 e12 => ?_⟩
  obtain ⟨t12, s12⟩ := I.step (j := 12) (by decide) (by decide) e12
  refine ⟨t12, fun q12 f12 => ?_⟩
  replace I := s12 q12 _ (by decide) f12
  refine ⟨by decide, by decide, fun p13 e13 => ?_⟩
  obtain ⟨t13, s13⟩ := I.step (j := 13) (by decide) (by decide) e13
  refine ⟨t13, fun q13 f13 => ?_⟩
  replace I := s13 q13 _ (by decide) f13
  refine ⟨by decide, by decide, fun p14 e14 => ?_⟩
  obtain ⟨t14, s14⟩ := I.step (j := 14) (by decide) (by decide) e14
  refine ⟨t14, fun q14 f14 => ?_⟩
  replace I := s14 q14 _ (by decide) f14
  refine ⟨by decide, by decide, fun p15 e15 => ?_⟩
  obtain ⟨t15, s15⟩ := I.step (j := 15) (by decide) (by decide) e15
  refine ⟨t15, fun q15 f15 => ?_⟩
  replace I := s15 q15 _ (by decide) f15
  refine ⟨by decide, by decide, fun p16 e16 => ?_⟩
  obtain ⟨t16, s16⟩ := I.step (j := 16) (by decide) (by decide) e16
  refine ⟨t16, fun q16 f16 => ?_⟩
  replace I := s16 q16 _ (by decide) f16
  refine ⟨by decide, by decide, fun p17 e17 => ?_⟩
  obtain ⟨t17, s17⟩ := I.step (j := 17) (by decide) (by decide) e17
  refine ⟨t17, fun q17 f17 => ?_⟩
  replace I := s17 q17 _ (by decide) f17
  refine ⟨by decide, by decide, fun p18 e18 => ?_⟩
  obtain ⟨t18, s18⟩ := I.step (j := 18) (by decide) (by decide) e18
  refine ⟨t18, fun q18 f18 => ?_⟩
  replace I := s18 q18 _ (by decide) f18
  intro hw ew
  replace I : IS m true h 19 hw := by
    obtain ⟨a1, a2, a3, a4, a5, a6⟩ := I
    refine ⟨by rw [ew]; exact a1, by rw [ew]; exact a2, by rw [ew]; exact a3, fun k => ?_, fun c hc => (a5 c hc).trans (Sm.si ew (by omega)), by rw [ew]; exact a6⟩
    rw [ew, ji_si]
    by_cases z : k = 534
    · rw [if_pos ⟨z, rfl⟩, if_pos ⟨z, rfl⟩]
    · rw [if_neg (fun w => z w.1), a4 k, if_neg (fun w => z w.1), if_neg (fun w => z w.1)]
  refine ⟨by decide, by decide, fun p19 e19 => ?_⟩
  obtain ⟨t19, s19⟩ := I.step (j := 19) (by decide) (by decide) e19
  refine ⟨t19, fun q19 f19 => ?_⟩
  replace I := s19 q19 _ (by decide) f19
  refine ⟨by decide, by decide, fun p20 e20 => ?_⟩
  obtain ⟨t20, s20⟩ := I.step (j := 20) (by decide) (by decide) e20
  refine ⟨t20, fun q20 f20 => ?_⟩
  replace I := s20 q20 _ (by decide) f20
  refine ⟨by decide, by decide, fun p21 e21 => ?_⟩
  obtain ⟨t21, s21⟩ := I.step (j := 21) (by decide) (by decide) e21
  refine ⟨t21, fun q21 f21 => ?_⟩
  replace I := s21 q21 _ (by decide) f21
  refine ⟨by decide, by decide, fun p22 e22 => ?_⟩
  obtain ⟨t22, s22⟩ := I.step (j := 22) (by decide) (by decide) e22
  refine ⟨t22, fun q22 f22 => ?_⟩
  replace I := s22 q22 _ (by decide) f22
  refine ⟨by decide, by decide, fun p23 e23 => ?_⟩
  obtain ⟨t23, s23⟩ := I.step (j := 23) (by decide) (by decide) e23
  refine ⟨t23, fun q23 f23 => ?_⟩
  replace I := s23 q23 _ (by decide) f23
  refine ⟨by decide, by decide, fun p24 e24 => ?_⟩
  obtain ⟨t24, s24⟩ := I.step (j := 24) (by decide) (by decide) e24
  refine ⟨t24, fun q24 f24 => ?_⟩
  replace I := s24 q24 _ (by decide) f24
  refine ⟨by decide, by decide, fun p25 e25 => ?_⟩
  obtain ⟨t25, s25⟩ := I.step (j := 25) (by decide) (by decide) e25
  refine ⟨t25, fun q25 f25 => ?_⟩
  replace I := s25 q25 _ (by decide) f25
  refine ⟨by decide, by decide, fun p26 e26 => ?_⟩
  obtain ⟨t26, s26⟩ := I.step (j := 26) (by decide) (by decide) e26
  refine ⟨t26, fun q26 f26 => ?_⟩
  replace I := s26 q26 _ (by decide) f26
  obtain ⟨a1, a2, a3, a4, a5, a6⟩ := I
  refine hQ _ (by rw [a1]) a3 a5 ⟨⟨a2, fun j j1 j2 => ⟨(a6 j j1 j2).1, (a6 j j1 j2).2.1, (a6 j j1 j2).2.2.1⟩⟩, ?_, ?_, ?_, ?_, fun j i j1 j2 i1 i2 => ?_, fun i i1 i2 => ?_, fun i k i1 i2 i3 => ?_, fun l => ?_⟩
  · rw [a4 513]; rfl
  · rw [a4 533]; rfl
  · rw [a4 534]; rfl
  · rw [a4 535]; rfl
  · rw [((a6 j j1 (by omega)).2.2.2 i).1]
    unfold mV
    by_cases c : j = 12
    · rw [if_pos c]; rfl
    · rw [if_neg c]
      have : S0.1 (if j ≤ 11 then j else j - 1) i = 0 := by
        show (if _ ∧ i = 0 then 1 else 0) = 0
        rw [if_neg (by omega)]
      rw [this]; rfl
  · have : i ≤ 0 := i2
    omega
  · have : k < 0 := i3
    omega
  · have : (0 : Nat) = 1 := l
    omega
theorem m_thrown {v : Int32} (hm : jt h m = 9) (hv : ji h 512 m = v) (hQ : Q (.inl (some (.inl v))) h) : jM g mX10_thrown [.inr (.inr (some m))] h 0 0 Q := by
  refine eX10_thrown ⟨hm, ?_⟩
  rw [hv]; exact hQ
end ModU
