/-! rows of jG: arithmetic, branches (by program) -/
section JA
variable {g : jg} {y : jm} {pc : Nat} {lv : List (Nat × jv)} {st : List jv} {h : jh} {k n : Nat} {Q : jq}
theorem jg_iadd {a b : Int32} (hd : decode y.2.1 pc = .ok (.iadd, 1)) (K : jG g y (pc + 1) lv (.inl (a + b) :: st) h k n Q) : jG g y pc lv (.inl b :: .inl a :: st) h k n Q := by
  intro p e s m args below meth c H locs cells slots mc ms ls C hH hS hc hs hL
  exact lv_iadd C.1 C.2.1 hd (K p e s m args below meth c H locs cells slots mc ms ls C hH hS hc hs hL)
theorem jg_isub {a b : Int32} (hd : decode y.2.1 pc = .ok (.isub, 1)) (K : jG g y (pc + 1) lv (.inl (a - b) :: st) h k n Q) : jG g y pc lv (.inl b :: .inl a :: st) h k n Q := by
  intro p e s m args below meth c H locs cells slots mc ms ls C hH hS hc hs hL
  exact lv_isub C.1 C.2.1 hd (K p e s m args below meth c H locs cells slots mc ms ls C hH hS hc hs hL)
theorem jg_imul {a b : Int32} (hd : decode y.2.1 pc = .ok (.imul, 1)) (K : jG g y (pc + 1) lv (.inl (a * b) :: st) h k n Q) : jG g y pc lv (.inl b :: .inl a :: st) h k n Q := by
  intro p e s m args below meth c H locs cells slots mc ms ls C hH hS hc hs hL
  exact lv_imul C.1 C.2.1 hd (K p e s m args below meth c H locs cells slots mc ms ls C hH hS hc hs hL)
theorem jg_iand {a b : Int32} (hd : decode y.2.1 pc = .ok (.iand, 1)) (K : jG g y (pc + 1) lv (.inl (a &&& b) :: st) h k n Q) : jG g y pc lv (.inl b :: .inl a :: st) h k n Q := by
  intro p e s m args below meth c H locs cells slots mc ms ls C hH hS hc hs hL
  exact lv_iand C.1 C.2.1 hd (K p e s m args below meth c H locs cells slots mc ms ls C hH hS hc hs hL)
theorem jg_ior {a b : Int32} (hd : decode y.2.1 pc = .ok (.ior, 1)) (K : jG g y (pc + 1) lv (.inl (a ||| b) :: st) h k n Q) : jG g y pc lv (.inl b :: .inl a :: st) h k n Q := by
  intro p e s m args below meth c H locs cells slots mc ms ls C hH hS hc hs hL
  exact lv_ior C.1 C.2.1 hd (K p e s m args below meth c H locs cells slots mc ms ls C hH hS hc hs hL)
theorem jg_ishl {a b : Int32} (hd : decode y.2.1 pc = .ok (.ishl, 1)) (K : jG g y (pc + 1) lv (.inl (a <<< (b &&& 31)) :: st) h k n Q) : jG g y pc lv (.inl b :: .inl a :: st) h k n Q := by
  intro p e s m args below meth c H locs cells slots mc ms ls C hH hS hc hs hL
  exact lv_ishl C.1 C.2.1 hd (K p e s m args below meth c H locs cells slots mc ms ls C hH hS hc hs hL)
theorem jg_ishr {a b : Int32} (hd : decode y.2.1 pc = .ok (.ishr, 1)) (K : jG g y (pc + 1) lv (.inl (a >>> (b &&& 31)) :: st) h k n Q) : jG g y pc lv (.inl b :: .inl a :: st) h k n Q := by
  intro p e s m args below meth c H locs cells slots mc ms ls C hH hS hc hs hL
  exact lv_ishr C.1 C.2.1 hd (K p e s m args below meth c H locs cells slots mc ms ls C hH hS hc hs hL)
theorem jg_idiv {a b : Int32} (hd : decode y.2.1 pc = .ok (.idiv, 1)) (hne : ¬ b = 0) (K : jG g y (pc + 1) lv (.inl (a / b) :: st) h k n Q) : jG g y pc lv (.inl b :: .inl a :: st) h k n Q := by
  intro p e s m args below meth c H locs cells slots mc ms ls C hH hS hc hs hL
  exact lv_idiv C.1 C.2.1 hd hne (K p e s m args below meth c H locs cells slots mc ms ls C hH hS hc hs hL)
theorem jg_irem {a b : Int32} (hd : decode y.2.1 pc = .ok (.irem, 1)) (hne : ¬ b = 0) (K : jG g y (pc + 1) lv (.inl (a - a / b * b) :: st) h k n Q) : jG g y pc lv (.inl b :: .inl a :: st) h k n Q := by
  intro p e s m args below meth c H locs cells slots mc ms ls C hH hS hc hs hL
  exact lv_irem C.1 C.2.1 hd hne (K p e s m args below meth c H locs cells slots mc ms ls C hH hS hc hs hL)
theorem jg_ladd {a b : Int64} (hd : decode y.2.1 pc = .ok (.ladd, 1)) (K : jG g y (pc + 1) lv (.inr (.inl (a + b)) :: st) h k n Q) : jG g y pc lv (.inr (.inl b) :: .inr (.inl a) :: st) h k n Q := by
  intro p e s m args below meth c H locs cells slots mc ms ls C hH hS hc hs hL
  exact lv_ladd C.1 C.2.1 hd (K p e s m args below meth c H locs cells slots mc ms ls C hH hS hc hs hL)
theorem jg_lsub {a b : Int64} (hd : decode y.2.1 pc = .ok (.lsub, 1)) (K : jG g y (pc + 1) lv (.inr (.inl (a - b)) :: st) h k n Q) : jG g y pc lv (.inr (.inl b) :: .inr (.inl a) :: st) h k n Q := by
  intro p e s m args below meth c H locs cells slots mc ms ls C hH hS hc hs hL
  exact lv_lsub C.1 C.2.1 hd (K p e s m args below meth c H locs cells slots mc ms ls C hH hS hc hs hL)
theorem jg_lmul {a b : Int64} (hd : decode y.2.1 pc = .ok (.lmul, 1)) (K : jG g y (pc + 1) lv (.inr (.inl (a * b)) :: st) h k n Q) : jG g y pc lv (.inr (.inl b) :: .inr (.inl a) :: st) h k n Q := by
  intro p e s m args below meth c H locs cells slots mc ms ls C hH hS hc hs hL
  exact lv_lmul C.1 C.2.1 hd (K p e s m args below meth c H locs cells slots mc ms ls C hH hS hc hs hL)
theorem jg_land {a b : Int64} (hd : decode y.2.1 pc = .ok (.land, 1)) (K : jG g y (pc + 1) lv (.inr (.inl (a &&& b)) :: st) h k n Q) : jG g y pc lv (.inr (.inl b) :: .inr (.inl a) :: st) h k n Q := by
  intro p e s m args below meth c H locs cells slots mc ms ls C hH hS hc hs hL
  exact lv_land C.1 C.2.1 hd (K p e s m args below meth c H locs cells slots mc ms ls C hH hS hc hs hL)
theorem jg_lor {a b : Int64} (hd : decode y.2.1 pc = .ok (.lor, 1)) (K : jG g y (pc + 1) lv (.inr (.inl (a ||| b)) :: st) h k n Q) : jG g y pc lv (.inr (.inl b) :: .inr (.inl a) :: st) h k n Q := by
  intro p e s m args below meth c H locs cells slots mc ms ls C hH hS hc hs hL
  exact lv_lor C.1 C.2.1 hd (K p e s m args below meth c H locs cells slots mc ms ls C hH hS hc hs hL)
theorem jg_ldiv {a b : Int64} (hd : decode y.2.1 pc = .ok (.ldiv, 1)) (hne : ¬ b = 0) (K : jG g y (pc + 1) lv (.inr (.inl (a / b)) :: st) h k n Q) : jG g y pc lv (.inr (.inl b) :: .inr (.inl a) :: st) h k n Q := by
  intro p e s m args below meth c H locs cells slots mc ms ls C hH hS hc hs hL
  exact lv_ldiv C.1 C.2.1 hd hne (K p e s m args below meth c H locs cells slots mc ms ls C hH hS hc hs hL)
theorem jg_lrem {a b : Int64} (hd : decode y.2.1 pc = .ok (.lrem, 1)) (hne : ¬ b = 0) (K : jG g y (pc + 1) lv (.inr (.inl (a - a / b * b)) :: st) h k n Q) : jG g y pc lv (.inr (.inl b) :: .inr (.inl a) :: st) h k n Q := by
  intro p e s m args below meth c H locs cells slots mc ms ls C hH hS hc hs hL
  exact lv_lrem C.1 C.2.1 hd hne (K p e s m args below meth c H locs cells slots mc ms ls C hH hS hc hs hL)
theorem jg_lneg {a : Int64} (hd : decode y.2.1 pc = .ok (.lneg, 1)) (K : jG g y (pc + 1) lv (.inr (.inl (-a)) :: st) h k n Q) : jG g y pc lv (.inr (.inl a) :: st) h k n Q := by
  intro p e s m args below meth c H locs cells slots mc ms ls C hH hS hc hs hL
  exact lv_lneg C.1 C.2.1 hd (K p e s m args below meth c H locs cells slots mc ms ls C hH hS hc hs hL)
theorem jg_lshl {a : Int64} {b : Int32} (hd : decode y.2.1 pc = .ok (.lshl, 1)) (K : jG g y (pc + 1) lv (.inr (.inl (a <<< (b.toInt64 &&& 63))) :: st) h k n Q) : jG g y pc lv (.inl b :: .inr (.inl a) :: st) h k n Q := by
  intro p e s m args below meth c H locs cells slots mc ms ls C hH hS hc hs hL
  exact lv_lshl C.1 C.2.1 hd rfl (K p e s m args below meth c H locs cells slots mc ms ls C hH hS hc hs hL)
theorem jg_lshr {a : Int64} {b : Int32} (hd : decode y.2.1 pc = .ok (.lshr, 1)) (K : jG g y (pc + 1) lv (.inr (.inl (a >>> (b.toInt64 &&& 63))) :: st) h k n Q) : jG g y pc lv (.inl b :: .inr (.inl a) :: st) h k n Q := by
  intro p e s m args below meth c H locs cells slots mc ms ls C hH hS hc hs hL
  exact lv_lshr C.1 C.2.1 hd rfl (K p e s m args below meth c H locs cells slots mc ms ls C hH hS hc hs hL)
theorem jg_i2l {a : Int32} (hd : decode y.2.1 pc = .ok (.i2l, 1)) (K : jG g y (pc + 1) lv (.inr (.inl a.toInt64) :: st) h k n Q) : jG g y pc lv (.inl a :: st) h k n Q := by
  intro p e s m args below meth c H locs cells slots mc ms ls C hH hS hc hs hL
  exact lv_i2l C.1 C.2.1 hd rfl (K p e s m args below meth c H locs cells slots mc ms ls C hH hS hc hs hL)
theorem jg_l2i {a : Int64} (hd : decode y.2.1 pc = .ok (.l2i, 1)) (K : jG g y (pc + 1) lv (.inl a.toInt32 :: st) h k n Q) : jG g y pc lv (.inr (.inl a) :: st) h k n Q := by
  intro p e s m args below meth c H locs cells slots mc ms ls C hH hS hc hs hL
  exact lv_l2i C.1 C.2.1 hd rfl (K p e s m args below meth c H locs cells slots mc ms ls C hH hS hc hs hL)
theorem jg_i2b {a : Int32} (hd : decode y.2.1 pc = .ok (.i2b, 1)) (K : jG g y (pc + 1) lv (.inl a.toInt8.toInt32 :: st) h k n Q) : jG g y pc lv (.inl a :: st) h k n Q := by
  intro p e s m args below meth c H locs cells slots mc ms ls C hH hS hc hs hL
  exact lv_i2b C.1 C.2.1 hd rfl (K p e s m args below meth c H locs cells slots mc ms ls C hH hS hc hs hL)
theorem jg_if_eq {x : Int32} {off : Int} {tgt : Nat} (hd : decode y.2.1 pc = .ok (.ifCond .eq off, 3)) (ht : (pc : Int) + off = (tgt : Int)) (K : x = 0 → jG g y tgt lv st h k n Q) (L : ¬ x = 0 → jG g y (pc + 3) lv st h k n Q) : jG g y pc lv (.inl x :: st) h k n Q := by
  intro p e s m args below meth c H locs cells slots mc ms ls C hH hS hc hs hL
  exact lv_if_eq C.1 C.2.1 hd ht (fun q => (K q p e s m args below meth c H locs cells slots mc ms ls C hH hS hc hs hL)) (fun q => (L q p e s m args below meth c H locs cells slots mc ms ls C hH hS hc hs hL))
theorem jg_if_ne {x : Int32} {off : Int} {tgt : Nat} (hd : decode y.2.1 pc = .ok (.ifCond .ne off, 3)) (ht : (pc : Int) + off = (tgt : Int)) (K : ¬ x = 0 → jG g y tgt lv st h k n Q) (L : x = 0 → jG g y (pc + 3) lv st h k n Q) : jG g y pc lv (.inl x :: st) h k n Q := by
  intro p e s m args below meth c H locs cells slots mc ms ls C hH hS hc hs hL
  exact lv_if_ne C.1 C.2.1 hd ht (fun q => (K q p e s m args below meth c H locs cells slots mc ms ls C hH hS hc hs hL)) (fun q => (L q p e s m args below meth c H locs cells slots mc ms ls C hH hS hc hs hL))
theorem jg_if_lt {x : Int32} {off : Int} {tgt : Nat} (hd : decode y.2.1 pc = .ok (.ifCond .lt off, 3)) (ht : (pc : Int) + off = (tgt : Int)) (K : x < 0 → jG g y tgt lv st h k n Q) (L : ¬ x < 0 → jG g y (pc + 3) lv st h k n Q) : jG g y pc lv (.inl x :: st) h k n Q := by
  intro p e s m args below meth c H locs cells slots mc ms ls C hH hS hc hs hL
  exact lv_if_lt C.1 C.2.1 hd ht (fun q => (K q p e s m args below meth c H locs cells slots mc ms ls C hH hS hc hs hL)) (fun q => (L q p e s m args below meth c H locs cells slots mc ms ls C hH hS hc hs hL))
theorem jg_if_ge {x : Int32} {off : Int} {tgt : Nat} (hd : decode y.2.1 pc = .ok (.ifCond .ge off, 3)) (ht : (pc : Int) + off = (tgt : Int)) (K : 0 ≤ x → jG g y tgt lv st h k n Q) (L : ¬ 0 ≤ x → jG g y (pc + 3) lv st h k n Q) : jG g y pc lv (.inl x :: st) h k n Q := by
  intro p e s m args below meth c H locs cells slots mc ms ls C hH hS hc hs hL
  exact lv_if_ge C.1 C.2.1 hd ht (fun q => (K q p e s m args below meth c H locs cells slots mc ms ls C hH hS hc hs hL)) (fun q => (L q p e s m args below meth c H locs cells slots mc ms ls C hH hS hc hs hL))
theorem jg_if_gt {x : Int32} {off : Int} {tgt : Nat} (hd : decode y.2.1 pc = .ok (.ifCond .gt off, 3)) (ht : (pc : Int) + off = (tgt : Int)) (K : 0 < x → jG g y tgt lv st h k n Q) (L : ¬ 0 < x → jG g y (pc + 3) lv st h k n Q) : jG g y pc lv (.inl x :: st) h k n Q := by
  intro p e s m args below meth c H locs cells slots mc ms ls C hH hS hc hs hL
  exact lv_if_gt C.1 C.2.1 hd ht (fun q => (K q p e s m args below meth c H locs cells slots mc ms ls C hH hS hc hs hL)) (fun q => (L q p e s m args below meth c H locs cells slots mc ms ls C hH hS hc hs hL))
theorem jg_if_le {x : Int32} {off : Int} {tgt : Nat} (hd : decode y.2.1 pc = .ok (.ifCond .le off, 3)) (ht : (pc : Int) + off = (tgt : Int)) (K : x ≤ 0 → jG g y tgt lv st h k n Q) (L : ¬ x ≤ 0 → jG g y (pc + 3) lv st h k n Q) : jG g y pc lv (.inl x :: st) h k n Q := by
  intro p e s m args below meth c H locs cells slots mc ms ls C hH hS hc hs hL
  exact lv_if_le C.1 C.2.1 hd ht (fun q => (K q p e s m args below meth c H locs cells slots mc ms ls C hH hS hc hs hL)) (fun q => (L q p e s m args below meth c H locs cells slots mc ms ls C hH hS hc hs hL))
theorem jg_icmp_eq {x z : Int32} {off : Int} {tgt : Nat} (hd : decode y.2.1 pc = .ok (.if_icmp .eq off, 3)) (ht : (pc : Int) + off = (tgt : Int)) (K : x = z → jG g y tgt lv st h k n Q) (L : ¬ x = z → jG g y (pc + 3) lv st h k n Q) : jG g y pc lv (.inl z :: .inl x :: st) h k n Q := by
  intro p e s m args below meth c H locs cells slots mc ms ls C hH hS hc hs hL
  exact lv_icmp_eq C.1 C.2.1 hd ht (fun q => (K q p e s m args below meth c H locs cells slots mc ms ls C hH hS hc hs hL)) (fun q => (L q p e s m args below meth c H locs cells slots mc ms ls C hH hS hc hs hL))
theorem jg_icmp_ne {x z : Int32} {off : Int} {tgt : Nat} (hd : decode y.2.1 pc = .ok (.if_icmp .ne off, 3)) (ht : (pc : Int) + off = (tgt : Int)) (K : ¬ x = z → jG g y tgt lv st h k n Q) (L : x = z → jG g y (pc + 3) lv st h k n Q) : jG g y pc lv (.inl z :: .inl x :: st) h k n Q := by
  intro p e s m args below meth c H locs cells slots mc ms ls C hH hS hc hs hL
  exact lv_icmp_ne C.1 C.2.1 hd ht (fun q => (K q p e s m args below meth c H locs cells slots mc ms ls C hH hS hc hs hL)) (fun q => (L q p e s m args below meth c H locs cells slots mc ms ls C hH hS hc hs hL))
theorem jg_icmp_lt {x z : Int32} {off : Int} {tgt : Nat} (hd : decode y.2.1 pc = .ok (.if_icmp .lt off, 3)) (ht : (pc : Int) + off = (tgt : Int)) (K : x < z → jG g y tgt lv st h k n Q) (L : ¬ x < z → jG g y (pc + 3) lv st h k n Q) : jG g y pc lv (.inl z :: .inl x :: st) h k n Q := by
  intro p e s m args below meth c H locs cells slots mc ms ls C hH hS hc hs hL
  exact lv_icmp_lt C.1 C.2.1 hd ht (fun q => (K q p e s m args below meth c H locs cells slots mc ms ls C hH hS hc hs hL)) (fun q => (L q p e s m args below meth c H locs cells slots mc ms ls C hH hS hc hs hL))
theorem jg_icmp_ge {x z : Int32} {off : Int} {tgt : Nat} (hd : decode y.2.1 pc = .ok (.if_icmp .ge off, 3)) (ht : (pc : Int) + off = (tgt : Int)) (K : z ≤ x → jG g y tgt lv st h k n Q) (L : ¬ z ≤ x → jG g y (pc + 3) lv st h k n Q) : jG g y pc lv (.inl z :: .inl x :: st) h k n Q := by
  intro p e s m args below meth c H locs cells slots mc ms ls C hH hS hc hs hL
  exact lv_icmp_ge C.1 C.2.1 hd ht (fun q => (K q p e s m args below meth c H locs cells slots mc ms ls C hH hS hc hs hL)) (fun q => (L q p e s m args below meth c H locs cells slots mc ms ls C hH hS hc hs hL))
theorem jg_icmp_gt {x z : Int32} {off : Int} {tgt : Nat} (hd : decode y.2.1 pc = .ok (.if_icmp .gt off, 3)) (ht : (pc : Int) + off = (tgt : Int)) (K : z < x → jG g y tgt lv st h k n Q) (L : ¬ z < x → jG g y (pc + 3) lv st h k n Q) : jG g y pc lv (.inl z :: .inl x :: st) h k n Q := by
  intro p e s m args below meth c H locs cells slots mc ms ls C hH hS hc hs hL
  exact lv_icmp_gt C.1 C.2.1 hd ht (fun q => (K q p e s m args below meth c H locs cells slots mc ms ls C hH hS hc hs hL)) (fun q => (L q p e s m args below meth c H locs cells slots mc ms ls C hH hS hc hs hL))
theorem jg_icmp_le {x z : Int32} {off : Int} {tgt : Nat} (hd : decode y.2.1 pc = .ok (.if_icmp .le off, 3)) (ht : (pc : Int) + off = (tgt : Int)) (K : x ≤ z → jG g y tgt lv st h k n Q) (L : ¬ x ≤ z → jG g y (pc + 3) lv st h k n Q) : jG g y pc lv (.inl z :: .inl x :: st) h k n Q := by
  intro p e s m args below meth c H locs cells slots mc ms ls C hH hS hc hs hL
  exact lv_icmp_le C.1 C.2.1 hd ht (fun q => (K q p e s m args below meth c H locs cells slots mc ms ls C hH hS hc hs hL)) (fun q => (L q p e s m args below meth c H locs cells slots mc ms ls C hH hS hc hs hL))
theorem jcmp_lt {x z : Int64} : (lg_cmp x z < 0) ↔ x < z := by
  unfold lg_cmp
  by_cases h1 : z < x
  · have h2 : ¬ x < z := fun h => absurd (Int64.lt_iff_toInt_lt.mp h) (by have := Int64.lt_iff_toInt_lt.mp h1; omega)
    simp [h1, h2]
  · by_cases h2 : x = z
    · subst h2; simp [h1]
    · have h3 : x < z := by
        rw [Int64.lt_iff_toInt_lt] at h1 ⊢
        have : x.toInt ≠ z.toInt := fun q => h2 (Int64.toInt_inj.mp q)
        omega
      simp [h1, h2, h3]
theorem jcmp_gt {x z : Int64} : (0 < lg_cmp x z) ↔ z < x := by
  unfold lg_cmp
  by_cases h1 : z < x
  · simp [h1]
  · by_cases h2 : x = z
    · subst h2; simp [h1]
    · simp [h1, h2]
theorem jcmp_eq {x z : Int64} : (lg_cmp x z = 0) ↔ x = z := by
  unfold lg_cmp
  by_cases h1 : z < x
  · have h2 : ¬ x = z := fun h => by subst h; exact absurd (Int64.lt_iff_toInt_lt.mp h1) (by omega)
    simp [h1, h2]
  · by_cases h2 : x = z
    · subst h2; simp [h1]
    · simp [h1, h2]
theorem jcmp_ge {x z : Int64} : (0 ≤ lg_cmp x z) ↔ z ≤ x := by
  have h := @jcmp_lt x z
  rw [Int32.le_iff_toInt_le, Int64.le_iff_toInt_le]
  rw [Int32.lt_iff_toInt_lt, Int64.lt_iff_toInt_lt] at h
  have h0 : (0 : Int32).toInt = 0 := rfl
  omega
theorem jcmp_le {x z : Int64} : (lg_cmp x z ≤ 0) ↔ x ≤ z := by
  have h := @jcmp_gt x z
  rw [Int32.le_iff_toInt_le, Int64.le_iff_toInt_le]
  rw [Int32.lt_iff_toInt_lt, Int64.lt_iff_toInt_lt] at h
  have h0 : (0 : Int32).toInt = 0 := rfl
  omega
theorem jg_lcmp_eq {x z : Int64} {off : Int} {tgt : Nat} (hd : decode y.2.1 pc = .ok (.lcmp, 1)) (hd2 : decode y.2.1 (pc + 1) = .ok (.ifCond .eq off, 3)) (ht : ((pc + 1 : Nat) : Int) + off = (tgt : Int)) (K : x = z → jG g y tgt lv st h k n Q) (L : ¬ x = z → jG g y (pc + 4) lv st h k n Q) : jG g y pc lv (.inr (.inl z) :: .inr (.inl x) :: st) h k n Q := by
  intro p e s m args below meth c H locs cells slots mc ms ls C hH hS hc hs hL
  exact W.lcmp C.1 C.2.1 hd (lv_if_eq C.1 C.2.1 hd2 ht (fun q => (K (jcmp_eq.mp q) p e s m args below meth c H locs cells slots mc ms ls C hH hS hc hs hL)) (fun q => (L (fun z9 => q (jcmp_eq.mpr z9)) p e s m args below meth c H locs cells slots mc ms ls C hH hS hc hs hL)))
theorem jg_lcmp_ne {x z : Int64} {off : Int} {tgt : Nat} (hd : decode y.2.1 pc = .ok (.lcmp, 1)) (hd2 : decode y.2.1 (pc + 1) = .ok (.ifCond .ne off, 3)) (ht : ((pc + 1 : Nat) : Int) + off = (tgt : Int)) (K : ¬ x = z → jG g y tgt lv st h k n Q) (L : x = z → jG g y (pc + 4) lv st h k n Q) : jG g y pc lv (.inr (.inl z) :: .inr (.inl x) :: st) h k n Q := by
  intro p e s m args below meth c H locs cells slots mc ms ls C hH hS hc hs hL
  exact W.lcmp C.1 C.2.1 hd (lv_if_ne C.1 C.2.1 hd2 ht (fun q => (K (fun z9 => q (jcmp_eq.mpr z9)) p e s m args below meth c H locs cells slots mc ms ls C hH hS hc hs hL)) (fun q => (L (jcmp_eq.mp q) p e s m args below meth c H locs cells slots mc ms ls C hH hS hc hs hL)))
theorem jg_lcmp_lt {x z : Int64} {off : Int} {tgt : Nat} (hd : decode y.2.1 pc = .ok (.lcmp, 1)) (hd2 : decode y.2.1 (pc + 1) = .ok (.ifCond .lt off, 3)) (ht : ((pc + 1 : Nat) : Int) + off = (tgt : Int)) (K : x < z → jG g y tgt lv st h k n Q) (L : ¬ x < z → jG g y (pc + 4) lv st h k n Q) : jG g y pc lv (.inr (.inl z) :: .inr (.inl x) :: st) h k n Q := by
  intro p e s m args below meth c H locs cells slots mc ms ls C hH hS hc hs hL
  exact W.lcmp C.1 C.2.1 hd (lv_if_lt C.1 C.2.1 hd2 ht (fun q => (K (jcmp_lt.mp q) p e s m args below meth c H locs cells slots mc ms ls C hH hS hc hs hL)) (fun q => (L (fun z9 => q (jcmp_lt.mpr z9)) p e s m args below meth c H locs cells slots mc ms ls C hH hS hc hs hL)))
theorem jg_lcmp_ge {x z : Int64} {off : Int} {tgt : Nat} (hd : decode y.2.1 pc = .ok (.lcmp, 1)) (hd2 : decode y.2.1 (pc + 1) = .ok (.ifCond .ge off, 3)) (ht : ((pc + 1 : Nat) : Int) + off = (tgt : Int)) (K : z ≤ x → jG g y tgt lv st h k n Q) (L : ¬ z ≤ x → jG g y (pc + 4) lv st h k n Q) : jG g y pc lv (.inr (.inl z) :: .inr (.inl x) :: st) h k n Q := by
  intro p e s m args below meth c H locs cells slots mc ms ls C hH hS hc hs hL
  exact W.lcmp C.1 C.2.1 hd (lv_if_ge C.1 C.2.1 hd2 ht (fun q => (K (jcmp_ge.mp q) p e s m args below meth c H locs cells slots mc ms ls C hH hS hc hs hL)) (fun q => (L (fun z9 => q (jcmp_ge.mpr z9)) p e s m args below meth c H locs cells slots mc ms ls C hH hS hc hs hL)))
theorem jg_lcmp_gt {x z : Int64} {off : Int} {tgt : Nat} (hd : decode y.2.1 pc = .ok (.lcmp, 1)) (hd2 : decode y.2.1 (pc + 1) = .ok (.ifCond .gt off, 3)) (ht : ((pc + 1 : Nat) : Int) + off = (tgt : Int)) (K : z < x → jG g y tgt lv st h k n Q) (L : ¬ z < x → jG g y (pc + 4) lv st h k n Q) : jG g y pc lv (.inr (.inl z) :: .inr (.inl x) :: st) h k n Q := by
  intro p e s m args below meth c H locs cells slots mc ms ls C hH hS hc hs hL
  exact W.lcmp C.1 C.2.1 hd (lv_if_gt C.1 C.2.1 hd2 ht (fun q => (K (jcmp_gt.mp q) p e s m args below meth c H locs cells slots mc ms ls C hH hS hc hs hL)) (fun q => (L (fun z9 => q (jcmp_gt.mpr z9)) p e s m args below meth c H locs cells slots mc ms ls C hH hS hc hs hL)))
theorem jg_lcmp_le {x z : Int64} {off : Int} {tgt : Nat} (hd : decode y.2.1 pc = .ok (.lcmp, 1)) (hd2 : decode y.2.1 (pc + 1) = .ok (.ifCond .le off, 3)) (ht : ((pc + 1 : Nat) : Int) + off = (tgt : Int)) (K : x ≤ z → jG g y tgt lv st h k n Q) (L : ¬ x ≤ z → jG g y (pc + 4) lv st h k n Q) : jG g y pc lv (.inr (.inl z) :: .inr (.inl x) :: st) h k n Q := by
  intro p e s m args below meth c H locs cells slots mc ms ls C hH hS hc hs hL
  exact W.lcmp C.1 C.2.1 hd (lv_if_le C.1 C.2.1 hd2 ht (fun q => (K (jcmp_le.mp q) p e s m args below meth c H locs cells slots mc ms ls C hH hS hc hs hL)) (fun q => (L (fun z9 => q (jcmp_le.mpr z9)) p e s m args below meth c H locs cells slots mc ms ls C hH hS hc hs hL)))
theorem jg_goto {off : Int} {tgt : Nat} (hd : decode y.2.1 pc = .ok (.goto off, 3)) (ht : (pc : Int) + off = (tgt : Int)) (K : jG g y tgt lv st h k n Q) : jG g y pc lv st h k n Q := by
  intro p e s m args below meth c H locs cells slots mc ms ls C hH hS hc hs hL
  exact lv_goto C.1 C.2.1 hd ht (K p e s m args below meth c H locs cells slots mc ms ls C hH hS hc hs hL)
theorem jg_ifnull {o : Option Nat} {off : Int} {tgt : Nat} (hd : decode y.2.1 pc = .ok (.ifnull off, 3)) (ht : (pc : Int) + off = (tgt : Int)) (K : o = none → jG g y tgt lv st h k n Q) (L : ¬ o = none → jG g y (pc + 3) lv st h k n Q) : jG g y pc lv (.inr (.inr o) :: st) h k n Q := by
  intro p e s m args below meth c H locs cells slots mc ms ls C hH hS hc hs hL
  cases o with
  | none => exact lv_ifnullN C.1 C.2.1 hd ht (K rfl p e s m args below meth c H locs cells slots mc ms ls C hH hS hc hs hL)
  | some a => exact lv_ifnull C.1 C.2.1 hd (L (fun q => by cases q) p e s m args below meth c H locs cells slots mc ms ls C hH hS hc hs hL)
theorem jg_ifnonnull {o : Option Nat} {off : Int} {tgt : Nat} (hd : decode y.2.1 pc = .ok (.ifnonnull off, 3)) (ht : (pc : Int) + off = (tgt : Int)) (K : ¬ o = none → jG g y tgt lv st h k n Q) (L : o = none → jG g y (pc + 3) lv st h k n Q) : jG g y pc lv (.inr (.inr o) :: st) h k n Q := by
  intro p e s m args below meth c H locs cells slots mc ms ls C hH hS hc hs hL
  cases o with
  | none => exact lv_ifnonnullN C.1 C.2.1 hd (L rfl p e s m args below meth c H locs cells slots mc ms ls C hH hS hc hs hL)
  | some a => exact lv_ifnonnull C.1 C.2.1 hd ht (K (fun q => by cases q) p e s m args below meth c H locs cells slots mc ms ls C hH hS hc hs hL)
theorem jg_acmp_eq {x z : Option Nat} {off : Int} {tgt : Nat} (hd : decode y.2.1 pc = .ok (.if_acmp .eq off, 3)) (ht : (pc : Int) + off = (tgt : Int)) (K : x = z → jG g y tgt lv st h k n Q) (L : ¬ x = z → jG g y (pc + 3) lv st h k n Q) : jG g y pc lv (.inr (.inr z) :: .inr (.inr x) :: st) h k n Q := by
  intro p e s m args below meth c H locs cells slots mc ms ls C hH hS hc hs hL
  exact lv_acmp_eq C.1 C.2.1 hd ht (fun q => (K q p e s m args below meth c H locs cells slots mc ms ls C hH hS hc hs hL)) (fun q => (L q p e s m args below meth c H locs cells slots mc ms ls C hH hS hc hs hL))
theorem jg_acmp_ne {x z : Option Nat} {off : Int} {tgt : Nat} (hd : decode y.2.1 pc = .ok (.if_acmp .ne off, 3)) (ht : (pc : Int) + off = (tgt : Int)) (K : ¬ x = z → jG g y tgt lv st h k n Q) (L : x = z → jG g y (pc + 3) lv st h k n Q) : jG g y pc lv (.inr (.inr z) :: .inr (.inr x) :: st) h k n Q := by
  intro p e s m args below meth c H locs cells slots mc ms ls C hH hS hc hs hL
  exact lv_acmp_ne C.1 C.2.1 hd ht (fun q => (K q p e s m args below meth c H locs cells slots mc ms ls C hH hS hc hs hL)) (fun q => (L q p e s m args below meth c H locs cells slots mc ms ls C hH hS hc hs hL))
theorem jw_cat {v : jv} (hv : ∀ x, v ≠ .inr (.inl x)) : (jw v).category = 1 := by
  rcases v with x | x | x
  · rfl
  · exact absurd rfl (hv x)
  · cases x <;> rfl
theorem jg_dup {v : jv} (hd : decode y.2.1 pc = .ok (.dup, 1)) (hv : (jw v).category = 1) (K : jG g y (pc + 1) lv (v :: v :: st) h k n Q) : jG g y pc lv (v :: st) h k n Q := by
  intro p e s m args below meth c H locs cells slots mc ms ls C hH hS hc hs hL
  exact lv_dup C.1 C.2.1 hd hv (K p e s m args below meth c H locs cells slots mc ms ls C hH hS hc hs hL)
theorem jg_dup2 {v w : jv} (hd : decode y.2.1 pc = .ok (.dup2, 1)) (hv : (jw v).category = 1) (hw : (jw w).category = 1) (K : jG g y (pc + 1) lv (v :: w :: v :: w :: st) h k n Q) : jG g y pc lv (v :: w :: st) h k n Q := by
  intro p e s m args below meth c H locs cells slots mc ms ls C hH hS hc hs hL
  exact lv_dup2_11 C.1 C.2.1 hd hv hw (K p e s m args below meth c H locs cells slots mc ms ls C hH hS hc hs hL)
theorem jg_tsIn {dflt lo hi : Int} {offs : Array Int} {len : Nat} {x : Int32} (x0 : Int32) (i0 : Nat) {off : Int} {tgt : Nat} (hd : decode y.2.1 pc = .ok (.tableswitch dflt lo hi offs, len)) (hx : x = x0) (h1 : x0.toInt = lo + i0) (h2 : lo + i0 ≤ hi) (ho : offs[i0]? = some off) (ht : (pc : Int) + off = (tgt : Int)) (K : jG g y tgt lv st h k n Q) : jG g y pc lv (.inl x :: st) h k n Q := by
  intro p e s m args below meth c H locs cells slots mc ms ls C hH hS hc hs hL
  subst hx
  exact lv_tableIn C.1 C.2.1 hd (by omega) (by omega) (by rw [h1, show (lo + (i0 : Int) - lo).toNat = i0 by omega]; exact ho) ht (K p e s m args below meth c H locs cells slots mc ms ls C hH hS hc hs hL)
theorem jg_tsOut {dflt lo hi : Int} {offs : Array Int} {len : Nat} {x : Int32} {tgt : Nat} (hd : decode y.2.1 pc = .ok (.tableswitch dflt lo hi offs, len)) (hx : x.toInt < lo ∨ hi < x.toInt) (ht : (pc : Int) + dflt = (tgt : Int)) (K : jG g y tgt lv st h k n Q) : jG g y pc lv (.inl x :: st) h k n Q := by
  intro p e s m args below meth c H locs cells slots mc ms ls C hH hS hc hs hL
  exact lv_tableOut C.1 C.2.1 hd hx ht (K p e s m args below meth c H locs cells slots mc ms ls C hH hS hc hs hL)
theorem jg_ls {dflt : Int} {ps : Array (Int × Int)} {len : Nat} {x : Int32} {off : Int} {tgt : Nat} (hd : decode y.2.1 pc = .ok (.lookupswitch dflt ps, len)) (hp : (ps.toList.zip (ps.toList.drop 1)).all (fun (a, next) => a.1 < next.1) = true) (ho : Op.lookupswitch.offset ps.toList dflt x.toInt = off) (ht : (pc : Int) + off = (tgt : Int)) (K : jG g y tgt lv st h k n Q) : jG g y pc lv (.inl x :: st) h k n Q := by
  intro p e s m args below meth c H locs cells slots mc ms ls C hH hS hc hs hL
  exact lv_lookup C.1 C.2.1 hd hp ho ht (K p e s m args below meth c H locs cells slots mc ms ls C hH hS hc hs hL)
end JA
