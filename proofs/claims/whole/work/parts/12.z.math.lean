/-! Math's methods; a reference laid into a row -/
section JMa
variable {g : jg} {y : jm} {pc : Nat} {lv : List (Nat × jv)} {st : List jv} {h h' : jh} {k n : Nat} {Q : jq}
theorem jg_mmax {index : Nat} {a b : Int32} (hd : decode y.2.1 pc = .ok (.invokestatic index, 3)) (h1 : Cond.methodLink y.1.cls index Lib.Math.max.name ∈ jtb) (h2 : Cond.static Lib.Math.max.name ∈ jtb) (h3 : Cond.initialized "java/lang/Math" ∈ jtb) (h4 : Cond.code Lib.Math.max.name Lib.Math.max.code 2 (some .int) ∈ jtb)
    (hf : 1 ≤ y.2.2.2.2.1) (hl : ((st.map jw).map fun v => v.category).sum ≤ 8) (hl2 : 8 + 13 ≤ y.2.2.2.2.2) (K : jG g y (pc + 3) lv (.inl (if a < b then b else a) :: st) h k n Q) : jG g y pc lv (.inl b :: .inl a :: st) h k n Q := by
  intro p e s m args below meth c H locs cells slots mc ms ls C hH hS hc hs hL
  have hts := C.2.2.2.2.2.1
  exact va_mmax C.1 C.2.1 (C.2.2.2.1.trans hL.1.symm) C.2.2.2.2.1 (hts _ h1) (hts _ h2) (hts _ h3) (hts _ h4) hf (show ((st.map jw).map fun v => v.category).sum + 13 ≤ y.2.2.2.2.2 by omega) (show cells ≤ mc by omega) (show slots ≤ ms by omega) hd (K p e s m args below meth c H locs cells slots mc ms ls C hH hS hc hs hL)
theorem jg_mmin {index : Nat} {a b : Int32} (hd : decode y.2.1 pc = .ok (.invokestatic index, 3)) (h1 : Cond.methodLink y.1.cls index Lib.Math.min.name ∈ jtb) (h2 : Cond.static Lib.Math.min.name ∈ jtb) (h3 : Cond.initialized "java/lang/Math" ∈ jtb) (h4 : Cond.code Lib.Math.min.name Lib.Math.min.code 2 (some .int) ∈ jtb)
    (hf : 1 ≤ y.2.2.2.2.1) (hl : ((st.map jw).map fun v => v.category).sum ≤ 8) (hl2 : 8 + 13 ≤ y.2.2.2.2.2) (K : jG g y (pc + 3) lv (.inl (if b < a then b else a) :: st) h k n Q) : jG g y pc lv (.inl b :: .inl a :: st) h k n Q := by
  intro p e s m args below meth c H locs cells slots mc ms ls C hH hS hc hs hL
  have hts := C.2.2.2.2.2.1
  exact va_mmin C.1 C.2.1 (C.2.2.2.1.trans hL.1.symm) C.2.2.2.2.1 (hts _ h1) (hts _ h2) (hts _ h3) (hts _ h4) hf (show ((st.map jw).map fun v => v.category).sum + 13 ≤ y.2.2.2.2.2 by omega) (show cells ≤ mc by omega) (show slots ≤ ms by omega) hd (K p e s m args below meth c H locs cells slots mc ms ls C hH hS hc hs hL)
theorem jg_mmaxl {index : Nat} {a b : Int64} (hd : decode y.2.1 pc = .ok (.invokestatic index, 3)) (h1 : Cond.methodLink y.1.cls index Lib.MathLoose.max_long.x ∈ jtb) (h2 : Cond.static Lib.MathLoose.max_long.x ∈ jtb) (h3 : Cond.initialized "java/lang/Math" ∈ jtb) (h4 : Cond.code Lib.MathLoose.max_long.x Lib.MathLoose.max_long.code 4 (some .long) ∈ jtb)
    (hf : 1 ≤ y.2.2.2.2.1) (hl : ((st.map jw).map fun v => v.category).sum ≤ 8) (hl2 : 8 + 15 ≤ y.2.2.2.2.2) (K : jG g y (pc + 3) lv (.inr (.inl (if b < a then a else b)) :: st) h k n Q) : jG g y pc lv (.inr (.inl b) :: .inr (.inl a) :: st) h k n Q := by
  intro p e s m args below meth c H locs cells slots mc ms ls C hH hS hc hs hL
  have hts := C.2.2.2.2.2.1
  exact va_mmax_long C.1 C.2.1 (C.2.2.2.1.trans hL.1.symm) C.2.2.2.2.1 (hts _ h1) (hts _ h2) (hts _ h3) (hts _ h4) hf (show ((st.map jw).map fun v => v.category).sum + 15 ≤ y.2.2.2.2.2 by omega) (show cells ≤ mc by omega) (show slots ≤ ms by omega) hd (K p e s m args below meth c H locs cells slots mc ms ls C hH hS hc hs hL)
theorem jg_mabsl {index : Nat} {a : Int64} (hd : decode y.2.1 pc = .ok (.invokestatic index, 3)) (h1 : Cond.methodLink y.1.cls index Lib.MathLoose.abs_long.x ∈ jtb) (h2 : Cond.static Lib.MathLoose.abs_long.x ∈ jtb) (h3 : Cond.initialized "java/lang/Math" ∈ jtb) (h4 : Cond.code Lib.MathLoose.abs_long.x Lib.MathLoose.abs_long.code 2 (some .long) ∈ jtb)
    (hf : 1 ≤ y.2.2.2.2.1) (hl : ((st.map jw).map fun v => v.category).sum ≤ 8) (hl2 : 8 + 13 ≤ y.2.2.2.2.2) (K : jG g y (pc + 3) lv (.inr (.inl (if 0 < a then a else -a)) :: st) h k n Q) : jG g y pc lv (.inr (.inl a) :: st) h k n Q := by
  intro p e s m args below meth c H locs cells slots mc ms ls C hH hS hc hs hL
  have hts := C.2.2.2.2.2.1
  exact va_mabs_long C.1 C.2.1 (C.2.2.2.1.trans hL.1.symm) C.2.2.2.2.1 (hts _ h1) (hts _ h2) (hts _ h3) (hts _ h4) hf (show ((st.map jw).map fun v => v.category).sum + 13 ≤ y.2.2.2.2.2 by omega) (show cells ≤ mc by omega) (show slots ≤ ms by omega) hd (K p e s m args below meth c H locs cells slots mc ms ls C hH hS hc hs hL)
theorem jp_aasto {o v : Option Nat} {i : Int32} (hd : decode y.2.1 pc = .ok (.aastore, 1)) (ho : ¬ o = none) (ht : jt h (jd o) = 23) (hi : vp_in i (jn h (jd o))) (hv : ¬ v = none) (hv1 : jt h (jd v) = 1) (he : h' = jsR h (jd o) i.toNatClampNeg (some (jd v))) (K : jG g y (pc + 1) lv st h' k n Q) : jG g y pc lv (.inr (.inr v) :: .inl i :: .inr (.inr o) :: st) h k n Q := by
  subst he
  rw [jd_some hv]
  exact jg_aast hd ho ht hi hv1 K
end JMa
theorem ma_0 : Cond.initialized "java/lang/Math" ∈ jtb := jtb_at 66 (by decide +kernel) rfl
theorem ma_max1 : Cond.static Lib.Math.max.name ∈ jtb := jtb_at 460 (by decide +kernel) rfl
theorem ma_max2 : Cond.code Lib.Math.max.name Lib.Math.max.code 2 (some .int) ∈ jtb := jtb_at 461 (by decide +kernel) rfl
theorem ma_maxl1 : Cond.static Lib.MathLoose.max_long.x ∈ jtb := jtb_at 487 (by decide +kernel) rfl
theorem ma_maxl2 : Cond.code Lib.MathLoose.max_long.x Lib.MathLoose.max_long.code 4 (some .long) ∈ jtb := jtb_at 488 (by decide +kernel) rfl
theorem ma_min1 : Cond.static Lib.Math.min.name ∈ jtb := jtb_at 548 (by decide +kernel) rfl
theorem ma_min2 : Cond.code Lib.Math.min.name Lib.Math.min.code 2 (some .int) ∈ jtb := jtb_at 549 (by decide +kernel) rfl
theorem ma_abs1 : Cond.static Lib.MathLoose.abs_long.x ∈ jtb := jtb_at 580 (by decide +kernel) rfl
theorem ma_abs2 : Cond.code Lib.MathLoose.abs_long.x Lib.MathLoose.abs_long.code 2 (some .long) ∈ jtb := jtb_at 581 (by decide +kernel) rfl
theorem ma_RX3_76 : Cond.methodLink RX3 76 Lib.Math.max.name ∈ jtb := jtb_at 459 (by decide +kernel) rfl
theorem ma_RX3_136 : Cond.methodLink RX3 136 Lib.MathLoose.max_long.x ∈ jtb := jtb_at 486 (by decide +kernel) rfl
theorem ma_RX6_19 : Cond.methodLink RX6 19 Lib.Math.min.name ∈ jtb := jtb_at 547 (by decide +kernel) rfl
theorem ma_RX6_25 : Cond.methodLink RX6 25 Lib.Math.max.name ∈ jtb := jtb_at 550 (by decide +kernel) rfl
theorem ma_RX2_54 : Cond.methodLink RX2 54 Lib.MathLoose.abs_long.x ∈ jtb := jtb_at 579 (by decide +kernel) rfl
