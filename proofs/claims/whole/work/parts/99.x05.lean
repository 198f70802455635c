/-! the class's state at the beginning -/
section Beg
variable {h h' : jh} {x z b1 b2 : Nat}
/-- what its constructor leaves -/
def NW0 (h : jh) (x z : Nat) : Prop := jt h x = 8 ∧ jr h 448 x = some z ∧ jr h 449 x = some (z + 2) ∧ jr h 450 x = some (z + 3) ∧ ji h 451 x = 0 ∧ ji h 452 x = 1 ∧ ji h 453 x = 0 ∧ jt h (z + 2) = 2 ∧ jr h 64 (z + 2) = some z ∧ jt h (z + 3) = 5 ∧ jr h 256 (z + 3) = some (z + 4) ∧ jt h (z + 4) = 21 ∧ jn h (z + 4) = 0 ∧ jt h z = 7 ∧ jr h 384 z = some (z + 1) ∧ jt h (z + 1) = 23 ∧ jn h (z + 1) = 121 ∧ ji h 385 z = 0
theorem NW0.sm (N : NW0 h x z) (sx : Sm h h' x) (s : ∀ j, j ≤ 4 → Sm h h' (z + j)) : NW0 h' x z := by
  obtain ⟨a1, a2, a3, a4, a5, a6, a7, a8, a9, a10, a11, a12, a13, a14, a15, a16, a17, a18⟩ := N
  have s0 := s 0 (by decide)
  have s1 := s 1 (by decide)
  have s2 := s 2 (by decide)
  have s3 := s 3 (by decide)
  have s4 := s 4 (by decide)
  rw [Nat.add_zero] at s0
  exact ⟨by rw [sx.1]; exact a1, by rw [(sx.2.2.1 _).2.2]; exact a2, by rw [(sx.2.2.1 _).2.2]; exact a3, by rw [(sx.2.2.1 _).2.2]; exact a4, by rw [(sx.2.2.1 _).1]; exact a5, by rw [(sx.2.2.1 _).1]; exact a6, by rw [(sx.2.2.1 _).1]; exact a7, by rw [s2.1]; exact a8, by rw [(s2.2.2.1 _).2.2]; exact a9, by rw [s3.1]; exact a10, by rw [(s3.2.2.1 _).2.2]; exact a11, by rw [s4.1]; exact a12, by rw [s4.2.1]; exact a13, by rw [s0.1]; exact a14, by rw [(s0.2.2.1 _).2.2]; exact a15, by rw [s1.1]; exact a16, by rw [s1.2.1]; exact a17, by rw [(s0.2.2.1 _).1]; exact a18⟩
theorem NW0.rc (N : NW0 h x z) (H : HW h) (hb : z + 4 < b1) (hb2 : b1 ≤ b2 → b2 < jz h) (ht : ∀ a, b1 ≤ a → a ≤ b2 → jt h a = 9 ∨ jt h a = 20 ∨ jt h a = 21 ∨ jt h a = 22 ∨ jt h a = 24) : RC h S0 x b1 b2 0 := by
  obtain ⟨a1, a2, a3, a4, a5, a6, a7, a8, a9, a10, a11, a12, a13, a14, a15, a16, a17, a18⟩ := N
  refine ⟨z, z + 2, z + 3, z + 1, z + 4, fun _ => 0, ⟨a1, a2, a3, a4, a5, a6, a7, a8, a9, a10, a11, a12, Or.inl (by omega), by rw [a13]; decide, ⟨a14, a15, a16, a17, a18, WA_S0.1, fun i i1 i2 => ?_⟩, H, ⟨hb2, ht, fun i r i1 i2 => ?_⟩, ⟨fun i j t i1 i2 => ?_, fun i j r q i1 i2 => ?_, fun i i1 i2 => ?_⟩, fun l => ?_⟩, a13⟩
  · have : i ≤ 0 := i2
    omega
  · have : i ≤ 0 := i2
    omega
  · have : i ≤ 0 := i2
    omega
  · have : i ≤ 0 := i2
    omega
  · have : i ≤ 0 := i2
    omega
  · have : (0 : Nat) = 1 := l
    omega
end Beg
