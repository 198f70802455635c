/-! a new object of the class -/
def S0 : sg := (fun a i => if a = 18 ∧ i = 0 then 1 else 0, fun _ _ => 0)
section New1
variable {g : jg} {h : jh} {x : Nat} {Q : jq}
theorem c_init (hx : jt h x = 8) (H : HW h) (hQ : ∀ h', jz h' = jz h + 5 → HW h' → (∀ c, c < jz h → c ≠ x → Sm h h' c) → jt h' x = 8 ∧ jr h' 448 x = some (jz h) ∧ jr h' 449 x = some (jz h + 2) ∧ jr h' 450 x = some (jz h + 3) ∧ ji h' 451 x = 0 ∧ ji h' 452 x = 1 ∧ ji h' 453 x = 0 ∧ jt h' (jz h + 2) = 2 ∧ jr h' 64 (jz h + 2) = some (jz h) ∧ jt h' (jz h + 3) = 5 ∧ jr h' 256 (jz h + 3) = some (jz h + 4) ∧ jt h' (jz h + 4) = 21 ∧ jn h' (jz h + 4) = 0 ∧ jt h' (jz h) = 7 ∧ jr h' 384 (jz h) = some (jz h + 1) ∧ jt h' (jz h + 1) = 23 ∧ jn h' (jz h + 1) = 121 ∧ ji h' 385 (jz h) = 0 → Q (.inl none) h') : jM g mX9_init [.inr (.inr (some x))] h 5 127 Q := by
  have xz : x < jz h := H x (by rw [hx]; decide)
  refine eX9_init ⟨by decide, by decide, ?_⟩
  intro h1 e1
  have z1 : jz h1 = jz h + 1 := by rw [e1]; rfl
  refine ⟨1, 121, by decide, by decide, eX8_init ⟨by decide, by decide, ?_⟩⟩
  intro h2 e2
  have z2 : jz h2 = jz h + 2 := by rw [e2, jz_mk, z1]
  refine ⟨by rw [e2, jt_mk, if_neg (by omega), e1, jt_mk, if_pos rfl], ?_⟩
  rw [z1]
  intro h3 e3 h4 e4
  rw [jkv_i]
  have z4 : jz h4 = jz h + 2 := by rw [e4, jz_si, e3, jz_sr]; exact z2
  have tx4 : jt h4 x = 8 := by rw [e4, jt_si, e3, jt_sr, e2, jt_mk, if_neg (by omega), e1, jt_mk, if_neg (by omega)]; exact hx
  refine ⟨tx4, ?_⟩
  intro h5 e5
  have z5 : jz h5 = jz h + 2 := by rw [e5, jz_sr]; exact z4
  refine ⟨by decide, by decide, ?_⟩
  intro h6 e6
  have z6 : jz h6 = jz h + 3 := by rw [e6, jz_mk, z5]
  have tx6 : jt h6 x = 8 := by rw [e6, jt_mk, if_neg (by omega), e5, jt_sr]; exact tx4
  have r6 : jr h6 448 x = some (jz h) := by rw [e6, jr_mk, if_neg (by omega), e5, jr_sr, if_pos ⟨rfl, rfl⟩]
  rw [r6, z5]
  refine ⟨tx6, eX3_init ⟨by rw [e6, jt_mk, if_pos z5.symm], ?_⟩⟩
  intro h7 e7 h8 e8
  rw [jkv_i]
  have z8 : jz h8 = jz h + 3 := by rw [e8, jz_sl, e7, jz_sr]; exact z6
  have tx8 : jt h8 x = 8 := by rw [e8, jt_sl, e7, jt_sr]; exact tx6
  refine ⟨tx8, ?_⟩
  intro h9 e9
  have z9 : jz h9 = jz h + 3 := by rw [e9, jz_sr]; exact z8
  refine ⟨by decide, by decide, ?_⟩
  intro h10 e10
  have z10 : jz h10 = jz h + 4 := by rw [e10, jz_mk, z9]
  have tx10 : jt h10 x = 8 := by rw [e10, jt_mk, if_neg (by omega), e9, jt_sr]; exact tx8
  refine ⟨1, 0, by decide, by decide, ?_⟩
  rw [z9]
  refine eX6_init ⟨by decide, by decide, ?_⟩
  intro h11 e11
  have z11 : jz h11 = jz h + 5 := by rw [e11, jz_mk, z10]
  refine ⟨by rw [e11, jt_mk, if_neg (by omega), e10, jt_mk, if_pos z9.symm], ?_⟩
  rw [z10]
  intro h12 e12 h13 e13
  rw [jkv_i]
  have tx13 : jt h13 x = 8 := by rw [e13, jt_si, e12, jt_sr, e11, jt_mk, if_neg (by omega)]; exact tx10
  refine ⟨tx13, ?_⟩
  intro h14 e14 h15 e15 h16 e16 h17 e17
  -- tags
  have T : jt h17 = jt h11 := by rw [e17, jt_si, e16, jt_si, e15, jt_si, e14, jt_sr, e13, jt_si, e12, jt_sr]
  have T11 : ∀ c, jt h11 c = if c = jz h + 4 then 21 else if c = jz h + 3 then 5 else if c = jz h + 2 then 2 else if c = jz h + 1 then 23 else if c = jz h then 7 else jt h c := fun c => by
    rw [e11, jt_mk, z10, e10, jt_mk, z9, e9, jt_sr, e8, jt_sl, e7, jt_sr, e6, jt_mk, z5, e5, jt_sr, e4, jt_si, e3, jt_sr, e2, jt_mk, z1, e1, jt_mk]
  have N : jn h17 = jn h11 := by rw [e17, jn_si, e16, jn_si, e15, jn_si, e14, jn_sr, e13, jn_si, e12, jn_sr]
  have N11 : ∀ c, jn h11 c = if c = jz h + 4 then 0 else if c = jz h + 3 then 0 else if c = jz h + 2 then 0 else if c = jz h + 1 then 121 else if c = jz h then 0 else jn h c := fun c => by
    rw [e11, jn_mk, z10, e10, jn_mk, z9, e9, jn_sr, e8, jn_sl, e7, jn_sr, e6, jn_mk, z5, e5, jn_sr, e4, jn_si, e3, jn_sr, e2, jn_mk, z1, e1, jn_mk]
  have Rr : ∀ k c, jr h17 k c = if k = 450 ∧ c = x then some (jz h + 3) else if k = 256 ∧ c = jz h + 3 then some (jz h + 4) else if c = jz h + 4 then none else if c = jz h + 3 then none else if k = 449 ∧ c = x then some (jz h + 2) else if k = 64 ∧ c = jz h + 2 then some (jz h) else if c = jz h + 2 then none else if k = 448 ∧ c = x then some (jz h) else if k = 384 ∧ c = jz h then some (jz h + 1) else if c = jz h + 1 then none else if c = jz h then none else jr h k c := fun k c => by
    rw [e17, jr_si, e16, jr_si, e15, jr_si, e14, jr_sr, e13, jr_si, e12, jr_sr, e11, jr_mk, z10, e10, jr_mk, z9, e9, jr_sr, e8, jr_sl, e7, jr_sr, e6, jr_mk, z5, e5, jr_sr, e4, jr_si, e3, jr_sr, e2, jr_mk, z1, e1, jr_mk]
  have Ii : ∀ k c, ji h17 k c = if k = 453 ∧ c = x then 0 else if k = 452 ∧ c = x then 1 else if k = 451 ∧ c = x then 0 else if k = 257 ∧ c = jz h + 3 then 0 else if c = jz h + 4 then 0 else if c = jz h + 3 then 0 else if c = jz h + 2 then 0 else if k = 385 ∧ c = jz h then 0 else if c = jz h + 1 then 0 else if c = jz h then 0 else ji h k c := fun k c => by
    rw [e17, ji_si, e16, ji_si, e15, ji_si, e14, ji_sr, e13, ji_si, e12, ji_sr, e11, ji_mk, z10, e10, ji_mk, z9, e9, ji_sr, e8, ji_sl, e7, ji_sr, e6, ji_mk, z5, e5, ji_sr, e4, ji_si, e3, ji_sr, e2, ji_mk, z1, e1, ji_mk]
  have Z : jz h17 = jz h + 5 := by rw [e17, jz_si, e16, jz_si, e15, jz_si, e14, jz_sr, e13, jz_si, e12, jz_sr]; exact z11
  refine hQ h17 Z ?_ ?_ ⟨?_, ?_, ?_, ?_, ?_, ?_, ?_, ?_, ?_, ?_, ?_, ?_, ?_, ?_, ?_, ?_, ?_, ?_⟩
  · intro c hc
    rw [T, T11] at hc
    rw [Z]
    by_cases q : c < jz h + 5
    · exact q
    · rw [if_neg (by omega), if_neg (by omega), if_neg (by omega), if_neg (by omega), if_neg (by omega)] at hc
      have := H c hc
      omega
  · intro c hc hcx
    have s1 : Sm h h1 c := Sm.mk e1 (by omega)
    have s2 := s1.trans (Sm.mk e2 (by omega))
    have s3 := s2.trans (Sm.sr e3 (by omega))
    have s4 := s3.trans (Sm.si e4 (by omega))
    have s5 := s4.trans (Sm.sr e5 hcx)
    have s6 := s5.trans (Sm.mk e6 (by omega))
    have s7 := s6.trans (Sm.sr e7 (by omega))
    have s8 := s7.trans (Sm.sl e8 (by omega))
    have s9 := s8.trans (Sm.sr e9 hcx)
    have s10 := s9.trans (Sm.mk e10 (by omega))
    have s11 := s10.trans (Sm.mk e11 (by omega))
    have s12 := s11.trans (Sm.sr e12 (by omega))
    have s13 := s12.trans (Sm.si e13 (by omega))
    have s14 := s13.trans (Sm.sr e14 hcx)
    exact ((s14.trans (Sm.si e15 hcx)).trans (Sm.si e16 hcx)).trans (Sm.si e17 hcx)
  · rw [T, T11, if_neg (by omega), if_neg (by omega), if_neg (by omega), if_neg (by omega), if_neg (by omega)]; exact hx
  · rw [Rr, if_neg (by omega), if_neg (by omega), if_neg (by omega), if_neg (by omega), if_neg (by omega), if_neg (by omega), if_neg (by omega), if_pos ⟨rfl, rfl⟩]
  · rw [Rr, if_neg (by omega), if_neg (by omega), if_neg (by omega), if_neg (by omega), if_pos ⟨rfl, rfl⟩]
  · rw [Rr, if_pos ⟨rfl, rfl⟩]
  · rw [Ii, if_neg (by omega), if_neg (by omega), if_pos ⟨rfl, rfl⟩]
  · rw [Ii, if_neg (by omega), if_pos ⟨rfl, rfl⟩]
  · rw [Ii, if_pos ⟨rfl, rfl⟩]
  · rw [T, T11, if_neg (by omega), if_neg (by omega), if_pos rfl]
  · rw [Rr, if_neg (by omega), if_neg (by omega), if_neg (by omega), if_neg (by omega), if_neg (by omega), if_pos ⟨rfl, rfl⟩]
  · rw [T, T11, if_neg (by omega), if_pos rfl]
  · rw [Rr, if_neg (by omega), if_pos ⟨rfl, rfl⟩]
  · rw [T, T11, if_pos rfl]
  · rw [N, N11, if_pos rfl]
  · rw [T, T11, if_neg (by omega), if_neg (by omega), if_neg (by omega), if_neg (by omega), if_pos rfl]
  · rw [Rr, if_neg (by omega), if_neg (by omega), if_neg (by omega), if_neg (by omega), if_neg (by omega), if_neg (by omega), if_neg (by omega), if_neg (by omega), if_pos ⟨rfl, rfl⟩]
  · rw [T, T11, if_neg (by omega), if_neg (by omega), if_neg (by omega), if_pos rfl]
  · rw [N, N11, if_neg (by omega), if_neg (by omega), if_neg (by omega), if_pos rfl]
  · rw [Ii, if_neg (by omega), if_neg (by omega), if_neg (by omega), if_neg (by omega), if_neg (by omega), if_neg (by omega), if_neg (by omega), if_pos ⟨rfl, rfl⟩]
end New1
