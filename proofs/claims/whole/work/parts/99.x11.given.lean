/-! WHAT THE START GIVES (by program) -/
theorem jS_start {l : Launch} {s : State} {b L : Nat} {xs : Nat → Int32} (hts : ∀ w ∈ lw_tbl, w.before #[Value.ref b] s = true) (hgv : (Jvm.Cond.and given_1 narrow_1).before #[Value.ref b] s = true) (hX : va_X b L xs s s.heap) (hbl : b < s.heap.size) (hl : l.stackTraces = false) : ∃ (D : va_G) (A : Nat → ClassId), jS (l, D, A, s.heap.size, b, L, xs) s := by
  have hm : ∀ {w : Cond} (i : Nat), lw_tbl[i]? = some w → w.before #[Value.ref b] s = true := fun i h => hts _ (List.mem_of_getElem? h)
  have htj : ∀ w ∈ jtb, w.before #[Value.ref b] s = true := fun w hw => hts w (List.mem_filter.mp hw).1
  have hg := flat_of_before _ hgv
  obtain ⟨c0, i0, k0⟩ := u_known (C := RX0) (T := TX0) (N := 20) (n := 20) htj jinX0 (hm 195 (by decide +kernel))
  obtain ⟨c1, i1, k1⟩ := u_known (C := RX3) (T := TX3) (N := 2) (n := 2) htj jinX3 (hm 102 (by decide +kernel))
  obtain ⟨c2, i2, k2⟩ := u_known (C := RX4) (T := TX4) (N := 3) (n := 3) htj jinX4 (hm 422 (by decide +kernel))
  obtain ⟨c3, i3, k3⟩ := u_known (C := RX5) (T := TX5) (N := 6) (n := 6) htj jinX5 (hm 204 (by decide +kernel))
  obtain ⟨c4, i4, k4⟩ := u_known (C := RX6) (T := TX6) (N := 2) (n := 2) htj jinX6 (hm 116 (by decide +kernel))
  obtain ⟨c5, i5, k5⟩ := u_known (C := RX7) (T := TX7) (N := 5) (n := 5) htj jinX7 (hm 351 (by decide +kernel))
  obtain ⟨c6, i6, k6⟩ := u_known (C := RX8) (T := TX8) (N := 2) (n := 2) htj jinX8 (hm 83 (by decide +kernel))
  obtain ⟨c7, i7, k7⟩ := u_known (C := RX9) (T := TX9) (N := 6) (n := 6) htj jinX9 (hm 75 (by decide +kernel))
  obtain ⟨c8, i8, k8⟩ := u_known (C := RX10) (T := TX10) (N := 36) (n := 36) htj jinX10 (hm 843 (by decide +kernel))
  obtain ⟨cI, kI, pI, fI1, fI2, fI3⟩ := Cond.arrayClass_spec (type := .int) (hm 437 (by decide +kernel))
  obtain ⟨cB, kB, pB, fB1, fB2, fB3⟩ := Cond.arrayClass_spec (type := .byte) (hm 129 (by decide +kernel))
  obtain ⟨cJ, kJ, pJ, fJ1, fJ2, fJ3⟩ := Cond.arrayClass_spec (type := .long) (hm 958 (by decide +kernel))
  obtain ⟨cZ, kZ, pZ, fZ1, fZ2, fZ3⟩ := Cond.arrayClass_spec (type := .boolean) (hm 957 (by decide +kernel))
  have hao : (Cond.arrayOver (.object RX0)).before #[Value.ref b] s = true := (hm 89 (by decide +kernel))
  obtain ⟨pR, cR, kR, fR1, -, fR2, fR3, fR4⟩ := Cond.arrayOver_spec hao
  refine ⟨(fun c => match c with | 0 => c0 | 1 => c1 | 2 => c2 | 3 => c3 | 4 => c4 | 5 => c5 | 6 => c6 | 7 => c7 | _ => c8, fun c => match c with | 0 => i0 | 1 => i1 | 2 => i2 | 3 => i3 | 4 => i4 | 5 => i5 | 6 => i6 | 7 => i7 | _ => i8), fun t => match t with | 0 => cI | 1 => cB | 2 => cJ | 3 => cR | _ => cZ, ⟨fun c q hq => ?_, fun k q hq => ?_⟩, ?_, ?_, fun q hq => ?_, fun q hq => ?_, fun own k tx hs => ?_, hX, hbl, hao, hl, fun x hx => ?_, ?_⟩
  · match c, hq with
    | 0, hq => cases hq; exact k0
    | 1, hq => cases hq; exact k1
    | 2, hq => cases hq; exact k2
    | 3, hq => cases hq; exact k3
    | 4, hq => cases hq; exact k4
    | 5, hq => cases hq; exact k5
    | 6, hq => cases hq; exact k6
    | 7, hq => cases hq; exact k7
    | 8, hq => cases hq; exact k8
    | _ + 9, hq => cases hq
  · match k, hq with
    | 0, hq => cases hq; exact ⟨fun _ _ => ⟨fun k h => (by cases h), kI, fI2, pI, fI3⟩, fI1⟩
    | 1, hq => cases hq; exact ⟨fun _ _ => ⟨fun k h => (by cases h), kB, fB2, pB, fB3⟩, fB1⟩
    | 2, hq => cases hq; exact ⟨fun _ _ => ⟨fun k h => (by cases h), kJ, fJ2, pJ, fJ3⟩, fJ1⟩
    | 3, hq => cases hq; exact ⟨fun _ _ => ⟨fun k h => (by cases h), kR, fR2, pR, fR3⟩, kR, pR, fR2, fR3, fR1, fR4⟩
    | 4, hq => cases hq; exact ⟨fun _ _ => ⟨fun k h => (by cases h), kZ, fZ2, pZ, fZ3⟩, fZ1⟩
    | _ + 5, hq => cases hq
  · exact vx_Zqof (args := #[Value.ref b]) (hm 715 (by decide +kernel)) (hm 67 (by decide +kernel)) (hg _ (by decide +kernel)) (fun a h1 h2 => Nat.lt_irrefl _ (Nat.lt_of_lt_of_le h1 h2))
  · exact vx_Zqof (args := #[Value.ref b]) (hm 717 (by decide +kernel)) (hm 67 (by decide +kernel)) (hg _ (by decide +kernel)) (fun a h1 h2 => Nat.lt_irrefl _ (Nat.lt_of_lt_of_le h1 h2))
  · simp only [jcst, List.mem_cons, List.not_mem_nil, or_false] at hq
    rcases hq with rfl | rfl | rfl
    · exact va_Nw.of rfl (A := #[Value.ref b]) (hm 688 (by decide +kernel))
    · exact va_Nw.of rfl (A := #[Value.ref b]) (hm 781 (by decide +kernel))
    · exact va_Nw.of rfl (A := #[Value.ref b]) (hm 797 (by decide +kernel))
  · simp only [jnst, List.mem_cons, List.not_mem_nil, or_false] at hq
    rcases hq with rfl | rfl | rfl | rfl
    · exact va_Nw.of rfl (A := #[Value.ref b]) (hm 117 (by decide +kernel))
    · exact va_Nw.of rfl (A := #[Value.ref b]) (hm 423 (by decide +kernel))
    · exact va_Nw.of rfl (A := #[Value.ref b]) (hm 84 (by decide +kernel))
    · exact va_Nw.of rfl (A := #[Value.ref b]) (hm 205 (by decide +kernel))
  · have h1 := hts _ hs
    cases hc : s.vm.findClass own with
    | none => simp [Cond.before, Cond.holds, Cond.value, hc] at h1
    | some cur =>
      obtain ⟨_, _, _, a, _, _, _, _, _, h6⟩ := Cond.stringRef_spec hc h1
      exact ⟨a, vk_R.of h1 h6⟩
  · simp only [jdcl, List.mem_cons, List.not_mem_nil, or_false] at hx
    rcases hx with rfl | rfl | rfl | rfl
    · exact va_Nw.of rfl (A := #[Value.ref b]) (hm 690 (by decide +kernel))
    · exact va_Nw.of rfl (A := #[Value.ref b]) (hm 692 (by decide +kernel))
    · exact va_Nw.of rfl (A := #[Value.ref b]) (hm 694 (by decide +kernel))
    · exact va_Nw.of rfl (A := #[Value.ref b]) (hm 696 (by decide +kernel))
  · exact va_Nc.of (hg _ (by decide +kernel))
