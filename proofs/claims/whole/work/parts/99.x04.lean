/-! the beginning -/
theorem S0_z (a i : Nat) (h : a ≠ 18) : S0.1 a i = 0 := if_neg (fun w => h w.1)
theorem WA_S0 : WA S0 := by
  have lv0 : ∀ i, lv S0 i = 0 := fun i => S0_z 1 i (by decide)
  have us0 : ∀ i, us S0 i = 0 := fun i => S0_z 2 i (by decide)
  have dg0 : ∀ i, dg S0 i = 0 := fun i => S0_z 3 i (by decide)
  have pa0 : ∀ i, pa S0 i = 0 := fun i => S0_z 4 i (by decide)
  have rc0 : ∀ i, rc S0 i = 0 := fun i => S0_z 5 i (by decide)
  have tb0 : ∀ i, tb S0 i = 0 := fun i => S0_z 6 i (by decide)
  have le0' : ∀ i, le S0 i = 0 := fun i => S0_z 7 i (by decide)
  have mo0 : ∀ i, mo S0 i = 0 := fun i => S0_z 8 i (by decide)
  have nw0 : ∀ i, nw S0 i = 0 := fun i => S0_z 9 i (by decide)
  have sy0 : ∀ i, sy S0 i = 0 := fun i => S0_z 10 i (by decide)
  have va0 : ∀ i, va S0 i = 0 := fun i => S0_z 11 i (by decide)
  have rg0 : ∀ i, rg S0 i = 0 := fun i => S0_z 12 i (by decide)
  have rn0 : ∀ i, rn S0 i = 0 := fun i => S0_z 13 i (by decide)
  have rm0 : ∀ i, rm S0 i = 0 := fun i => S0_z 14 i (by decide)
  have ot0 : ∀ i, ot S0 i = 0 := fun i => S0_z 15 i (by decide)
  have na0 : ∀ i, na S0 i = 0 := fun i => S0_z 16 i (by decide)
  have lb0 : ∀ i, lb S0 i = 0 := fun i => S0_z 21 i (by decide)
  have rd0 : ∀ i, rd S0 i = 0 := fun i => S0_z 22 i (by decide)
  have n0 : sN S0 = 0 := rfl
  have hp : ∀ i, 0 < i → cpa S0 i < i := cpa_lt (fun i hi => by rw [pa0]; exact hi)
  have tabs0 : ∀ i, tabs S0 i = 0 := by
    intro i
    induction i using Nat.strongRecOn with
    | _ i ih =>
      by_cases z : i = 0
      · subst z; rfl
      · rw [tabs_step hp (by omega), if_neg (fun w => w (tb0 i)), ih _ (hp i (by omega))]
  refine ⟨⟨by rw [n0]; decide, fun i hi => by rw [pa0]; exact hi, fun i => by rw [lv0]; decide, fun i => by rw [us0]; decide, fun i => by rw [dg0]; decide, fun i => by rw [tb0]; decide, fun i => by rw [mo0]; decide, fun i => by rw [nw0]; exact Nat.zero_le _, fun i => by rw [le0']; exact Nat.zero_le _, fun i => by rw [rg0]; decide, fun i => by rw [na0]; decide, fun i => by rw [rc0]; exact Nat.zero_le _, fun i => Or.inr (ot0 i), fun i => by rw [rn0]; exact Nat.zero_le _, fun i => by rw [rm0]; exact Nat.zero_le _, fun i => by rw [sy0]; decide, fun i => by rw [va0]; decide, fun i => by rw [rd0]; decide, fun i => by rw [lb0]; decide⟩, fun i h1 h2 => by rw [n0] at h2; omega, ⟨fun i h => absurd (tb0 i) h, fun i => by rw [tabs0]; decide, fun i h => absurd ((tb0 i).symm.trans h) (by decide), fun i h => absurd (sy0 i) h, fun i => ⟨fun _ => rfl, fun h => absurd (va0 i) h⟩, fun i h => absurd (ot0 i) h, fun i h => absurd (rd0 i) h, fun i h => absurd (na0 i) h, fun i => ⟨fun _ => rm0 i, fun h => absurd (rn0 i) h⟩, fun i h => absurd (rg0 i) h⟩, fun a i h1 h2 h3 => S0_z a i (by omega), fun _ _ _ _ => rfl, ⟨by decide, fun l => (by cases l)⟩, Nat.le_refl _, fun k => (by show b8 0 = 0; decide)⟩
