/-! each side leaves the other alone -/
section Fra
variable {h h' : jh} {S : sg} {m x tr pn so rw al : Nat} {ad : Nat → Nat}
theorem RM.fb (M : RM h S m) (F : FB m (m + 28) h h') : RM h' S m := by
  obtain ⟨m1, m2, m3, m4, m5, m6, m7, m8, m9⟩ := M
  have f0 := F m (Nat.le_refl _) (by omega)
  have fj : ∀ j, j ≤ 27 → jt h' (m + j) = jt h (m + j) ∧ jn h' (m + j) = jn h (m + j) ∧ ∀ i, jI h' (m + j) i = jI h (m + j) i ∧ jL h' (m + j) i = jL h (m + j) i := fun j hj => by
    have q := F (m + j) (by omega) (by omega)
    exact ⟨q.1, q.2.1, fun i => ⟨(q.2.2.2 i).1, (q.2.2.2 i).2.1⟩⟩
  have fk : ∀ k, 512 ≤ k → ji h' k m = ji h k m := fun k hk => (f0.2.2.1 k hk).1
  refine ⟨⟨by rw [f0.1]; exact m1.1, fun j j1 j2 => ?_⟩, by rw [fk _ (by decide)]; exact m2, by rw [fk _ (by decide)]; exact m3, by rw [fk _ (by decide)]; exact m4, by rw [fk _ (by decide)]; exact m5, fun j i j1 j2 i1 i2 => ?_, fun i i1 i2 => ?_, fun i k i1 i2 i3 => ?_, fun l => ?_⟩
  · obtain ⟨q1, q2, q3⟩ := m1.2 j j1 j2
    have hk : 512 ≤ mK j := by unfold mK; split <;> omega
    exact ⟨by rw [(f0.2.2.1 _ hk).2.2]; exact q1, by rw [(fj j j2).1]; exact q2, by rw [(fj j j2).2.1]; exact q3⟩
  · rw [((fj j (by omega)).2.2 i).1]; exact m6 j i j1 j2 i1 i2
  · rw [((fj 17 (by decide)).2.2 i).1]; exact m7 i i1 i2
  · rw [((fj 18 (by decide)).2.2 _).1, ((fj 19 (by decide)).2.2 _).1]; exact m8 i k i1 i2 i3
  · obtain ⟨l1, l2, l3, l4⟩ := m9 l
    refine ⟨by rw [fk _ (by decide)]; exact l1, by rw [fk _ (by decide)]; exact l2, fun k hk => by rw [((fj 20 (by decide)).2.2 k).1]; exact l3 k hk, fun i i1 i2 i3 => ?_⟩
    obtain ⟨y1, y2, y3, y4⟩ := l4 i i1 i2 i3
    exact ⟨by rw [((fj 21 (by decide)).2.2 i).2]; exact y1, by rw [((fj 22 (by decide)).2.2 i).2]; exact y2, fun z => by rw [((fj 23 (by decide)).2.2 i).2]; exact y3 z, by rw [((fj 25 (by decide)).2.2 i).2]; exact y4⟩
theorem RCx.fm (C : RCx h S x m (m + 28) tr pn so rw al ad) (F : FMb m h h') : RCx h' S x m (m + 28) tr pn so rw al ad := by
  obtain ⟨p1, p2, p3, p4, p5, p6, p7⟩ := F
  have e : ∀ k, k < 512 → ji h' k = ji h k := fun k hk => funext (fun c => (p4 k c (Or.inr hk)).1)
  have el : ∀ k, k < 512 → jl h' k = jl h k := fun k hk => funext (fun c => (p4 k c (Or.inr hk)).2)
  obtain ⟨x1, x2, x3, x4, x5, x6, x7, x8, x9, x10, x11, x12, x13, x14, R, H, B, J, L⟩ := C
  obtain ⟨r1, r2, r3, r4, r5, r6, r7⟩ := R
  refine ⟨by rw [p2]; exact x1, by rw [p5]; exact x2, by rw [p5]; exact x3, by rw [p5]; exact x4, by rw [e 451 (by decide)]; exact x5, by rw [e 452 (by decide)]; exact x6, by rw [e 453 (by decide)]; exact x7, by rw [p2]; exact x8, by rw [p5]; exact x9, by rw [p2]; exact x10, by rw [p5]; exact x11, by rw [p2]; exact x12, x13, by rw [p3]; exact x14, ⟨by rw [p2]; exact r1, by rw [p5]; exact r2, by rw [p2]; exact r3, by rw [p3]; exact r4, by rw [e 385 (by decide)]; exact r5, r6, fun j a b => ?_⟩, fun a ha => by rw [p2] at ha; rw [p1]; exact H a ha, ?_, ?_, fun l => ?_⟩
  · obtain ⟨hI, hT, hR⟩ := r7 j a b
    refine ⟨?_, ?_, ?_⟩
    · unfold RI
      rw [p7, p2, p5, e 0 (by decide), e 1 (by decide), e 2 (by decide), e 3 (by decide), e 4 (by decide), e 9 (by decide), e 11 (by decide), e 12 (by decide), e 13 (by decide), e 18 (by decide), e 19 (by decide)]
      exact hI
    · unfold RT
      rw [p2, p5, e 320 (by decide), e 321 (by decide), e 322 (by decide), e 323 (by decide)]
      exact hT
    · unfold RR
      rw [p2, p3, p5, e 130 (by decide)]
      refine ⟨hR.1, fun q => ?_⟩
      obtain ⟨r, y1, y2, y3, y4, y5, y6, y7, y8, y9, y10⟩ := hR.2 q
      have nb := B.2.2 j r a b y1
      refine ⟨r, y1, y2, y3, y4, y5, y6, y7, y8, y9, ?_⟩
      rw [(p6 (r + 1) (by omega)).1, (p6 (r + 2) (by omega)).1]
      exact y10
  · unfold RB
    rw [p1, p2, p5]; exact B
  · unfold RJ
    rw [p5, e 195 (by decide)]; exact J
  · rw [e 257 (by decide), p3, p5, el 192 (by decide), el 193 (by decide), el 324 (by decide), e 195 (by decide), (p6 al (by omega)).1]
    exact L l
theorem RC.fm {c : Nat} (C : RC h S x m (m + 28) c) (F : FMb m h h') : RC h' S x m (m + 28) c := by
  obtain ⟨tr, pn, so, rw, al, ad, C, e⟩ := C
  have e3 := F.2.2.1
  exact ⟨tr, pn, so, rw, al, ad, C.fm F, by rw [e3]; exact e⟩
end Fra
