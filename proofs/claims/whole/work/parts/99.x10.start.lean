/-! THE LAW'S BEGINNING: the class's object, the reference, the row out -/
theorem jkv_v {K : jh → Prop} {X : Nat → jh → Prop} {h : jh} (q : K h) : jkv K X (.inl none) h := q
theorem RM.fb7 {h h' : jh} {S : sg} {m : Nat} (M : RM h S m) (F : FB m (m + 27) h h') : RM h' S m := by
  obtain ⟨m1, m2, m3, m4, m5, m6, m7, m8, m9⟩ := M
  have f0 := F m (Nat.le_refl _) (by omega)
  have fj : ∀ j, j ≤ 27 → jt h' (m + j) = jt h (m + j) ∧ jn h' (m + j) = jn h (m + j) ∧ ∀ i, jI h' (m + j) i = jI h (m + j) i ∧ jL h' (m + j) i = jL h (m + j) i := fun j hj => by
    have q := F (m + j) (by omega) (by omega)
    exact ⟨q.1, q.2.1, fun i => ⟨(q.2.2.2 i).1, (q.2.2.2 i).2.1⟩⟩
  have fk : ∀ k, 512 ≤ k → ji h' k m = ji h k m := fun k hk => (f0.2.2.1 k hk).1
  refine ⟨⟨by rw [f0.1]; exact m1.1, fun j j1 j2 => ?_⟩, by rw [fk _ (by decide)]; exact m2, by rw [fk _ (by decide)]; exact m3, by rw [fk _ (by decide)]; exact m4, by rw [fk _ (by decide)]; exact m5, fun j i j1 j2 i1 i2 => ?_, fun i i1 i2 => ?_, fun i k i1 i2 i3 => ?_, fun l => ?_⟩
  · obtain ⟨q1, q2, q3⟩ := m1.2 j j1 j2
    have hk : 512 ≤ mK j := by unfold mK; split <;> omega
    exact ⟨by rw [(f0.2.2.1 _ hk).2.2]; exact q1, by rw [(fj j j2).1]; exact q2, by rw [(fj j j2).2.1]; exact q3⟩
  · rw [((fj j (by omega)).2.2 i).1]; exact m6 j i j1 j2 i1 i2
  · rw [((fj 17 (by decide)).2.2 i).1]; exact m7 i i1 i2
  · rw [((fj 18 (by decide)).2.2 _).1, ((fj 19 (by decide)).2.2 _).1]; exact m8 i k i1 i2 i3
  · obtain ⟨l1, l2, l3, l4⟩ := m9 l
    refine ⟨by rw [fk _ (by decide)]; exact l1, by rw [fk _ (by decide)]; exact l2, fun k hk => by rw [((fj 20 (by decide)).2.2 k).1]; exact l3 k hk, fun i i1 i2 i3 => ?_⟩
    obtain ⟨y1, y2, y3, y4⟩ := l4 i i1 i2 i3
    exact ⟨by rw [((fj 21 (by decide)).2.2 i).2]; exact y1, by rw [((fj 22 (by decide)).2.2 i).2]; exact y2, fun z => by rw [((fj 23 (by decide)).2.2 i).2]; exact y3 z, by rw [((fj 25 (by decide)).2.2 i).2]; exact y4⟩
theorem mT_k (j : Nat) : mT j = 20 ∨ mT j = 21 ∨ mT j = 22 ∨ mT j = 24 := by
  unfold mT
  split
  · exact Or.inr (Or.inr (Or.inr rfl))
  · split
    · exact Or.inr (Or.inl rfl)
    · split
      · exact Or.inr (Or.inr (Or.inl rfl))
      · exact Or.inl rfl
theorem law_start {g : jg} {h : jh} {k n : Nat} (hL : jgL g ≤ 2560) (H : HW h) (hk : 1600 ≤ k) (hn : 100000 ≤ n) : VL_law_0 g h k n QL := by
  unfold VL_law_0
  refine ⟨by omega, by omega, fun h1 e1 => ?_⟩
  have z1 : jz h1 = jz h + 1 := by rw [e1]; rfl
  refine ⟨5, 127, by omega, by omega, c_init (by rw [e1, jt_mk, if_pos rfl]) (by rw [e1]; exact H.mk) (fun h2 z2 H2 s2 N2 => jkv_v ?_)⟩
  refine ⟨by omega, by omega, fun h3 e3 => ?_⟩
  have z3 : jz h3 = jz h2 + 1 := by rw [e3]; rfl
  refine ⟨27, 24723, by omega, by omega, m_init (by rw [e3, jt_mk, if_pos rfl]) z3 (by rw [e3]; exact H2.mk) (fun q => by rw [e3]; exact if_pos rfl) (fun h4 z4 H4 s4 M4 => jkv_v ?_)⟩
  refine ⟨by omega, by omega, fun h5 e5 => ?_⟩
  have z5 : jz h5 = jz h4 + 1 := by rw [e5]; rfl
  have s5 : ∀ c, c ≠ jz h4 → Sm h4 h5 c := fun c hc => Sm.mk e5 hc
  have sa : ∀ c, c < jz h2 → Sm h2 h5 c := fun c hc => ((Sm.mk e3 (by omega)).trans (s4 c hc)).trans (s5 c (by omega))
  have N2' : NW0 h2 (jz h) (jz h1) := N2
  have N5 : NW0 h5 (jz h) (jz h1) := N2'.sm (sa _ (by omega)) (fun j hj => sa _ (by omega))
  have M5 : RM h5 S0 (jz h2) := M4.fb7 (Sm.fb (fun a a1 a2 => s5 a (by omega)))
  have t28 : jt h5 (jz h2 + 28) = 22 := by rw [e5, jt_mk, if_pos z4.symm]
  have n28 : jn h5 (jz h2 + 28) = 1 := by rw [e5]; exact if_pos z4.symm
  have C5 : RC h5 S0 (jz h) (jz h2) (jz h2 + 28) 0 := N5.rc (by rw [e5]; exact H4.mk) (by omega) (fun _ => by omega) (fun a a1 a2 => by
    by_cases q1 : a = jz h2
    · subst q1; exact Or.inl M5.t
    · by_cases q2 : a = jz h2 + 28
      · subst q2; exact Or.inr (Or.inr (Or.inr (Or.inl t28)))
      · obtain ⟨j, rfl⟩ : ∃ j, a = jz h2 + j := ⟨a - jz h2, by omega⟩
        have q3 := (M5.p j (by omega) (by omega)).2.1
        rw [q3]
        exact Or.inr (mT_k j))
  have K := law_loop (g := g) (x := jz h) (m := jz h2) hL 512 0 h5 S0 0 (k - 1 - 5 - 1 - 27 - 1) (n - 6 - 127 - 36 - 24723 - 1) (by omega) (by omega) ⟨C5, M5, WA_S0, t28, n28⟩ (by omega) (by have := lp_le 0; omega)
  rw [nI_0, ← z4] at K
  exact K
