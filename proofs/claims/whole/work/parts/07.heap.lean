/-! rows of jG: fields, rows, new cells -/
/-- entry 'index' of a class's pool is field k of class ci -/
def jfl (own : String) (index ci k : Nat) : Prop := ∃ (C : String) (T : u_T) (N : Nat), jcl[ci]? = some (C, T, N) ∧ N = jNc ci ∧ (∀ w ∈ u_ws C T N, w ∈ jtb) ∧ (∀ k, k < N → parseFieldDescriptor (T k).2.2.1 = some (jtyc ci k)) ∧ (∀ a, a < N → ∀ b, b < N → a ≠ b → (T a).2.1 ≠ (T b).2.1) ∧ k < N ∧ Cond.fieldLink own index C (T k).2.1 (T k).2.2.1 ∈ jtb ∧ (T k).1 = C
/-- .. and may be written there: it isn't final, or it's the constructor of its class -/
def jfp (y : jm) (index ci k : Nat) : Prop := ∃ (C : String) (T : u_T) (N : Nat), jcl[ci]? = some (C, T, N) ∧ N = jNc ci ∧ (∀ w ∈ u_ws C T N, w ∈ jtb) ∧ (∀ k, k < N → parseFieldDescriptor (T k).2.2.1 = some (jtyc ci k)) ∧ (∀ a, a < N → ∀ b, b < N → a ≠ b → (T a).2.1 ≠ (T b).2.1) ∧ k < N ∧ Cond.fieldLink y.1.cls index C (T k).2.1 (T k).2.2.1 ∈ jtb ∧ (T k).1 = C ∧ ((T k).2.2.2 = false ∨ ((T k).2.2.2 = true ∧ y.1.name = "<init>" ∧ C = y.1.cls))
theorem jcl_lt {ci : Nat} {q : vw_C} (h : jcl[ci]? = some q) : ci < 9 := (List.getElem?_eq_some_iff.mp h).1
theorem jd_some {o : Option Nat} (h : ¬ o = none) : o = some (jd o) := by
  cases o with
  | none => exact absurd rfl h
  | some a => rfl
section JHp
variable {g : jg} {y : jm} {pc : Nat} {lv : List (Nat × jv)} {st : List jv} {h : jh} {k n : Nat} {Q : jq}
theorem jg_get {o : Option Nat} {index ci fk : Nat} (hd : decode y.2.1 pc = .ok (.getfield index, 3)) (hf : jfl y.1.cls index ci fk) (ho : ¬ o = none) (ht : jt h (jd o) = ci + 1)
    (K : jG g y (pc + 3) lv (jf h ci fk (jd o) :: st) h k n Q) : jG g y pc lv (.inr (.inr o) :: st) h k n Q := by
  intro p e s m args below meth c H locs cells slots mc ms ls C hH hS hc hs hL
  obtain ⟨Cn, T, N, h1, h2, h3, -, -, h4, h5, h6⟩ := hf
  have hts := C.2.2.2.2.2.1
  have hK := C.2.2.2.2.2.2.2.2.2.1.1
  have hob := hH.2.2.2.1 (jd o) ci ht (jcl_lt h1)
  obtain ⟨cell, q1, q2, q3, q4⟩ := hob
  obtain ⟨hSl, hfc, kC, hkC, hkind⟩ := hK.1 ci _ h1
  obtain ⟨cf, kf, fi, f, hi, hsl⟩ := hSl fk h4
  generalize hA : jd o = a at *
  have ho' : o = some a := by rw [← hA]; exact jd_some ho
  subst ho'
  have hi2 : s.fieldFound? Cn (T fk).2.1 (T fk).2.2.1 = some (cf, kf, fi, f) := by rw [← hi]; exact congrArg (fun z => s.fieldFound? z (T fk).2.1 (T fk).2.2.1) h6.symm
  refine W.getf C.1 C.2.1 C.2.2.2.2.1 (hts _ h5) hi2 (u_facts hfc hkC (u_lays hts h3 h4) hi).1 q1 (by rw [q3]; exact fun q => by cases q) (v := jw (jf h ci fk a)) ?_ rfl rfl hd (K p e s m args below meth c H locs cells slots mc ms ls C hH hS hc hs hL)
  rw [hsl]
  exact q4 fk (by rw [← h2]; exact h4)
theorem jg_geti {o : Option Nat} {index ci fk : Nat} (hd : decode y.2.1 pc = .ok (.getfield index, 3)) (hf : jfl y.1.cls index ci fk) (hk : jkd (jtyc ci fk) = 0) (ho : ¬ o = none) (ht : jt h (jd o) = ci + 1)
    (K : jG g y (pc + 3) lv (.inl (ji h (64 * ci + fk) (jd o)) :: st) h k n Q) : jG g y pc lv (.inr (.inr o) :: st) h k n Q := jg_get hd hf ho ht (by unfold jf; rw [hk]; exact K)
theorem jg_getl {o : Option Nat} {index ci fk : Nat} (hd : decode y.2.1 pc = .ok (.getfield index, 3)) (hf : jfl y.1.cls index ci fk) (hk : jkd (jtyc ci fk) = 1) (ho : ¬ o = none) (ht : jt h (jd o) = ci + 1)
    (K : jG g y (pc + 3) lv (.inr (.inl (jl h (64 * ci + fk) (jd o))) :: st) h k n Q) : jG g y pc lv (.inr (.inr o) :: st) h k n Q := jg_get hd hf ho ht (by unfold jf; rw [hk]; exact K)
theorem jg_getr {o : Option Nat} {index ci fk : Nat} (hd : decode y.2.1 pc = .ok (.getfield index, 3)) (hf : jfl y.1.cls index ci fk) (hk : jkd (jtyc ci fk) = 2) (ho : ¬ o = none) (ht : jt h (jd o) = ci + 1)
    (K : jG g y (pc + 3) lv (.inr (.inr (jr h (64 * ci + fk) (jd o))) :: st) h k n Q) : jG g y pc lv (.inr (.inr o) :: st) h k n Q := jg_get hd hf ho ht (by unfold jf; rw [hk]; exact K)
/-- h' is h with field fk of the object a (of class ci) changed to v -/
def jput (h h' : jh) (ci fk a : Nat) (v : jv) : Prop := jz h' = jz h ∧ jt h' = jt h ∧ jn h' = jn h ∧ (∀ t, jrow h' t = jrow h t) ∧ jf h' ci fk a = v ∧ ∀ ci' k' a', ci' < 9 → k' < 64 → ¬ (a' = a ∧ ci' = ci ∧ k' = fk) → jf h' ci' k' a' = jf h ci' k' a'
theorem jH.put {H H' : Heap} {h' : jh} {ci fk a : Nat} {v : jv} (hH : jH g h H) (hp : jput h h' ci fk a v) (ht : jt h a = ci + 1) (hci : ci < 9) (hN : ∀ c, jNc c ≤ 64) (hap : ∀ x z, x < jNc ci → z < jNc ci → x ≠ z → (jgD g).2 ci x ≠ (jgD g).2 ci z) (hfk : fk < jNc ci) {cell : Cell}
    (q1 : H[a]? = some cell) (e1 : H'[a]? = some (cell.setSlot ((jgD g).2 ci fk) (jw v))) (e2 : H'.size = H.size) (e3 : ∀ q, q ≠ a → H'[q]? = H[q]?) : jH g h' H' := by
  obtain ⟨p1, p2, p3, p4, p5, p6⟩ := hp
  obtain ⟨a1, a2, a3, a4, a5⟩ := hH
  refine ⟨by rw [e2, a1, p1], by rw [p1]; exact a2, fun b hb => by rw [p2] at hb; rw [p1]; exact a3 b hb, fun b cj hb hcj => ?_, fun b t hb ht5 => ?_⟩
  · rw [p2] at hb
    by_cases hba : b = a
    · subst hba
      have hcc : cj = ci := by omega
      subst hcc
      obtain ⟨cell', z1, z2, z3, z4⟩ := a4 b cj hb hcj
      cases Option.some.inj (q1.symm.trans z1)
      refine ⟨_, e1, z2, z3, ?_⟩
      have hts := t_set z4 hap hfk (jw v)
      intro k' hk'
      rw [hts k' hk']
      by_cases hkk : k' = fk
      · subst hkk
        simp [updV, p5]
      · simp only [updV, if_neg hkk]
        rw [p6 cj k' b hcj (Nat.lt_of_lt_of_le hk' (hN cj)) (fun q => hkk q.2.2)]
    · obtain ⟨cell', z1, z2, z3, z4⟩ := a4 b cj hb hcj
      refine ⟨cell', by rw [e3 b hba]; exact z1, z2, z3, fun k' hk' => ?_⟩
      rw [z4 k' hk']
      show some (jw (jf h cj k' b)) = some (jw (jf h' cj k' b))
      rw [p6 cj k' b hcj (Nat.lt_of_lt_of_le hk' (hN cj)) (fun q => hba q.1)]
  · rw [p2] at hb
    have hba : b ≠ a := fun q => by subst q; omega
    rw [e3 b hba, a5 b t hb ht5, p3, p4]
theorem jNc_le (c : Nat) : jNc c ≤ 64 := by
  unfold jNc
  split <;> decide
theorem jg_put {h' : jh} {o : Option Nat} {index ci fk : Nat} {v : jv} (hd : decode y.2.1 pc = .ok (.putfield index, 3)) (hf : jfp y index ci fk) (ho : ¬ o = none) (ht : jt h (jd o) = ci + 1) (hn : narrow (jtyc ci fk) (jw v) = jw v) (hfit : fits (jtyc ci fk) (jw v) = true) (hp : jput h h' ci fk (jd o) v)
    (K : jG g y (pc + 3) lv st h' k n Q) : jG g y pc lv (v :: .inr (.inr o) :: st) h k n Q := by
  intro p e s m args below meth c H locs cells slots mc ms ls C hH hS hc hs hL
  obtain ⟨Cn, T, N, h1, h2, h3, hty, hnm, h4, h5, h6, h7⟩ := hf
  have hts := C.2.2.2.2.2.1
  have hK := C.2.2.2.2.2.2.2.2.2.1.1
  have hci := jcl_lt h1
  obtain ⟨cell, q1, q2, q3, q4⟩ := hH.2.2.2.1 (jd o) ci ht hci
  obtain ⟨hSl, hfc, kC, hkC, hkind⟩ := hK.1 ci _ h1
  obtain ⟨cf, kf, fi, f, hi, hsl⟩ := hSl fk h4
  generalize hA : jd o = a at *
  have ho' : o = some a := by rw [← hA]; exact jd_some ho
  subst ho'
  have hap := va_apart (own := y.1.cls) hts h3 (jtyc ci) hty hnm hK h1
  have hba : jA g a := (hH.2.2.1 a (by omega)).1
  have hi2 : s.fieldFound? Cn (T fk).2.1 (T fk).2.2.1 = some (cf, kf, fi, f) := by rw [← hi]; exact congrArg (fun z => s.fieldFound? z (T fk).2.1 (T fk).2.2.1) h6.symm
  have hlt : f.slot < cell.slots.size := by rw [hsl]; exact k2_hasslot (q4 fk (by rw [← h2]; exact h4))
  have hst := (u_facts hfc hkC (u_lays hts h3 h4) hi).1
  have fin : ∀ H' : Heap, H'[a]? = some (cell.setSlot f.slot (jw v)) → H'.size = H.size → (∀ q, q ≠ a → H'[q]? = H[q]?) → W p g.1 e (jrm y mc ms) s m args below meth c H' (locs ++ [⟨a, f.slot⟩]) cells slots (vx_MQ below (jQ g Q) (jX g Q) args s mc ms (jA g)) (F0 m (pc + 3) ls (st.map jw)) := by
    intro H' e1 e2 e3
    rw [hsl] at e1
    exact K p e s m args below meth c H' _ cells slots mc ms ls C (hH.put hp ht hci jNc_le (by rw [← h2]; exact hap) (by rw [← h2]; exact h4) q1 e1 e2 e3) (hS.put e2 e3 hba) hc hs hL
  rcases h7 with h7 | ⟨h7, h8, h9⟩
  · have hlay := hts _ (h3 _ (u_in_lay h4))
    unfold u_lay at hlay
    rw [if_neg (by rw [h7]; decide)] at hlay
    have h6' := u_store hfc hkC hkind hlay hi (hty fk h4) hn hfit
    exact W.putK C.1 C.2.1 (f := f) ⟨C.2.2.2.2.1, hts _ h5, ⟨_, _, _, hi2⟩, hst⟩ (by rw [q2]; exact h6') q1 q3 hlt rfl rfl hd fin
  · have hlay := hts _ (h3 _ (u_in_lay h4))
    unfold u_lay at hlay
    rw [if_pos h7] at hlay
    have hcf : m.cls = cf := by
      obtain ⟨_, _, c', _, _, _, -, -, hf', -, -, -, hown2, -⟩ := Cond.laysFinal_spec hlay
      have e1 : c' = cf := by have := hi.symm.trans hf'; simp at this; exact this.1.symm
      rw [h6, h9] at hown2
      rw [← e1]; exact Option.some.inj (C.2.2.2.2.1.symm.trans hown2)
    have h6' := u_fits hfc hkC hkind (Or.inr hlay) hi (hty fk h4) hn hfit
    exact W.putFinK C.1 C.2.1 C.2.2.2.2.1 (hts _ h5) hi2 hst hcf (C.2.2.2.2.2.2.2.1.trans h8) (by rw [q2]; exact h6') q1 q3 hlt rfl rfl hd fin
theorem jkey {c k c' k' : Nat} (h1 : k < 64) (h2 : k' < 64) (h : 64 * c' + k' = 64 * c + k) : c' = c ∧ k' = k := by omega
theorem jput_i {ci fk a : Nat} {x : Int32} (hk : jkd (jtyc ci fk) = 0) (hfk : fk < 64) : jput h (jsi h (64 * ci + fk) a x) ci fk a (.inl x) := by
  refine ⟨rfl, rfl, rfl, fun _ => rfl, ?_, fun ci' k' a' _ h2 hne => ?_⟩
  · unfold jf; rw [hk]; simp [jsi, ji, jup]
  · unfold jf
    split
    · have : ji (jsi h (64 * ci + fk) a x) (64 * ci' + k') a' = ji h (64 * ci' + k') a' := by
        simp only [jsi, ji, jup]
        rw [if_neg]
        rintro ⟨e1, e2⟩
        obtain ⟨z1, z2⟩ := jkey hfk h2 e1
        exact hne ⟨e2, z1, z2⟩
      rw [this]
    · rfl
    · rfl
theorem jput_l {ci fk a : Nat} {x : Int64} (hk : jkd (jtyc ci fk) = 1) (hfk : fk < 64) : jput h (jsl h (64 * ci + fk) a x) ci fk a (.inr (.inl x)) := by
  refine ⟨rfl, rfl, rfl, fun _ => rfl, ?_, fun ci' k' a' _ h2 hne => ?_⟩
  · unfold jf; rw [hk]; simp [jsl, jl, jup]
  · unfold jf
    split
    · rfl
    · have : jl (jsl h (64 * ci + fk) a x) (64 * ci' + k') a' = jl h (64 * ci' + k') a' := by
        simp only [jsl, jl, jup]
        rw [if_neg]
        rintro ⟨e1, e2⟩
        obtain ⟨z1, z2⟩ := jkey hfk h2 e1
        exact hne ⟨e2, z1, z2⟩
      rw [this]
    · rfl
theorem jput_r {ci fk a : Nat} {x : Option Nat} (hk : jkd (jtyc ci fk) = 2) (hfk : fk < 64) : jput h (jsr h (64 * ci + fk) a x) ci fk a (.inr (.inr x)) := by
  refine ⟨rfl, rfl, rfl, fun _ => rfl, ?_, fun ci' k' a' _ h2 hne => ?_⟩
  · unfold jf; rw [hk]; simp [jsr, jr, jup]
  · unfold jf
    split
    · rfl
    · rfl
    · have : jr (jsr h (64 * ci + fk) a x) (64 * ci' + k') a' = jr h (64 * ci' + k') a' := by
        simp only [jsr, jr, jup]
        rw [if_neg]
        rintro ⟨e1, e2⟩
        obtain ⟨z1, z2⟩ := jkey hfk h2 e1
        exact hne ⟨e2, z1, z2⟩
      rw [this]
theorem jfp_lt {index ci fk : Nat} (h : jfp y index ci fk) : fk < 64 := by
  obtain ⟨_, _, N, -, h2, -, -, -, h4, -⟩ := h
  exact Nat.lt_of_lt_of_le (by rw [← h2]; exact h4) (jNc_le ci)
theorem jg_puti {o : Option Nat} {index ci fk : Nat} {x : Int32} (hd : decode y.2.1 pc = .ok (.putfield index, 3)) (hf : jfp y index ci fk) (hk : jtyc ci fk = .int) (ho : ¬ o = none) (ht : jt h (jd o) = ci + 1)
    (K : jG g y (pc + 3) lv st (jsi h (64 * ci + fk) (jd o) x) k n Q) : jG g y pc lv (.inl x :: .inr (.inr o) :: st) h k n Q :=
  jg_put hd hf ho ht (by rw [hk]; rfl) (by rw [hk]; rfl) (jput_i (by rw [hk]; rfl) (jfp_lt hf)) K
/-- a boolean: 0 or 1 -/
theorem jg_putz {o : Option Nat} {index ci fk : Nat} {x : Int32} (hd : decode y.2.1 pc = .ok (.putfield index, 3)) (hf : jfp y index ci fk) (hk : jtyc ci fk = .boolean) (ho : ¬ o = none) (ht : jt h (jd o) = ci + 1) (hx : x = 0 ∨ x = 1)
    (K : jG g y (pc + 3) lv st (jsi h (64 * ci + fk) (jd o) x) k n Q) : jG g y pc lv (.inl x :: .inr (.inr o) :: st) h k n Q :=
  jg_put hd hf ho ht (by rw [hk]; rcases hx with rfl | rfl <;> rfl) (by rw [hk]; rcases hx with rfl | rfl <;> rfl) (jput_i (by rw [hk]; rfl) (jfp_lt hf)) K
theorem jg_putl {o : Option Nat} {index ci fk : Nat} {x : Int64} (hd : decode y.2.1 pc = .ok (.putfield index, 3)) (hf : jfp y index ci fk) (hk : jtyc ci fk = .long) (ho : ¬ o = none) (ht : jt h (jd o) = ci + 1)
    (K : jG g y (pc + 3) lv st (jsl h (64 * ci + fk) (jd o) x) k n Q) : jG g y pc lv (.inr (.inl x) :: .inr (.inr o) :: st) h k n Q :=
  jg_put hd hf ho ht (by rw [hk]; rfl) (by rw [hk]; rfl) (jput_l (by rw [hk]; rfl) (jfp_lt hf)) K
theorem jg_putr {o x : Option Nat} {index ci fk : Nat} (hd : decode y.2.1 pc = .ok (.putfield index, 3)) (hf : jfp y index ci fk) (hk : jkd (jtyc ci fk) = 2) (ho : ¬ o = none) (ht : jt h (jd o) = ci + 1)
    (K : jG g y (pc + 3) lv st (jsr h (64 * ci + fk) (jd o) x) k n Q) : jG g y pc lv (.inr (.inr x) :: .inr (.inr o) :: st) h k n Q := by
  refine jg_put hd hf ho ht ?_ ?_ (jput_r hk (jfp_lt hf)) K
  · generalize jtyc ci fk = ty at hk
    cases ty <;> first | (cases x <;> rfl) | (simp [jkd] at hk)
  · generalize jtyc ci fk = ty at hk
    cases ty <;> first | (cases x <;> rfl) | (simp [jkd] at hk)
/-- rows: reads -/
theorem jtys_at (g : jg) : (jtys g)[0]? = some (jgA g 0, .int) ∧ (jtys g)[1]? = some (jgA g 1, .byte) ∧ (jtys g)[2]? = some (jgA g 2, .long) ∧ (jtys g)[3]? = some (jgA g 3, .object RX0) ∧ (jtys g)[4]? = some (jgA g 4, .boolean) := ⟨rfl, rfl, rfl, rfl, rfl⟩
theorem jg_iald {o : Option Nat} {i : Int32} (hd : decode y.2.1 pc = .ok (.iaload, 1)) (ho : ¬ o = none) (ht : jt h (jd o) = 20) (hi : vp_in i (jn h (jd o))) (K : jG g y (pc + 1) lv (.inl (jI h (jd o) i.toNatClampNeg) :: st) h k n Q) : jG g y pc lv (.inl i :: .inr (.inr o) :: st) h k n Q := by
  intro p e s m args below meth c H locs cells slots mc ms ls C hH hS hc hs hL
  have ha := hH.2.2.2.2 (jd o) 0 ht (by decide)
  generalize hA : jd o = a at *
  have ho' : o = some a := by rw [← hA]; exact jd_some ho
  subst ho'
  have hlt : i.toNatClampNeg < jn h a := Nat.not_le.mp fun q => hi (Or.inr q)
  exact W.iald (v := .int (jI h a i.toNatClampNeg)) C.1 C.2.1 ha ((C.2.2.2.2.2.2.2.2.2.1.1.2 0 _ (jtys_at g).1).1 _ _) (fun q => by cases q) (by rw [arrV_size]; exact hi) (by rw [arrV_read _ _ hlt]; rfl) rfl rfl hd (K p e s m args below meth c H locs cells slots mc ms ls C hH hS hc hs hL)
theorem jg_bald {o : Option Nat} {i : Int32} (hd : decode y.2.1 pc = .ok (.baload, 1)) (ho : ¬ o = none) (ht : jt h (jd o) = 21) (hi : vp_in i (jn h (jd o))) (K : jG g y (pc + 1) lv (.inl (jI h (jd o) i.toNatClampNeg) :: st) h k n Q) : jG g y pc lv (.inl i :: .inr (.inr o) :: st) h k n Q := by
  intro p e s m args below meth c H locs cells slots mc ms ls C hH hS hc hs hL
  have ha := hH.2.2.2.2 (jd o) 1 ht (by decide)
  generalize hA : jd o = a at *
  have ho' : o = some a := by rw [← hA]; exact jd_some ho
  subst ho'
  have hlt : i.toNatClampNeg < jn h a := Nat.not_le.mp fun q => hi (Or.inr q)
  exact W.bald (v := .int (jI h a i.toNatClampNeg)) C.1 C.2.1 ha ((C.2.2.2.2.2.2.2.2.2.1.1.2 1 _ (jtys_at g).2.1).1 _ _) (fun q => by cases q) (by rw [arrV_size]; exact hi) (by rw [arrV_read _ _ hlt]; rfl) rfl rfl hd (K p e s m args below meth c H locs cells slots mc ms ls C hH hS hc hs hL)
theorem jg_zald {o : Option Nat} {i : Int32} (hd : decode y.2.1 pc = .ok (.baload, 1)) (ho : ¬ o = none) (ht : jt h (jd o) = 24) (hi : vp_in i (jn h (jd o))) (K : jG g y (pc + 1) lv (.inl (jI h (jd o) i.toNatClampNeg) :: st) h k n Q) : jG g y pc lv (.inl i :: .inr (.inr o) :: st) h k n Q := by
  intro p e s m args below meth c H locs cells slots mc ms ls C hH hS hc hs hL
  have ha := hH.2.2.2.2 (jd o) 4 ht (by decide)
  generalize hA : jd o = a at *
  have ho' : o = some a := by rw [← hA]; exact jd_some ho
  subst ho'
  have hlt : i.toNatClampNeg < jn h a := Nat.not_le.mp fun q => hi (Or.inr q)
  exact W.zald (v := .int (jI h a i.toNatClampNeg)) C.1 C.2.1 ha ((C.2.2.2.2.2.2.2.2.2.1.1.2 4 _ (jtys_at g).2.2.2.2).1 _ _) (fun q => by cases q) (by rw [arrV_size]; exact hi) (by rw [arrV_read _ _ hlt]; rfl) rfl rfl hd (K p e s m args below meth c H locs cells slots mc ms ls C hH hS hc hs hL)
theorem jg_lald {o : Option Nat} {i : Int32} (hd : decode y.2.1 pc = .ok (.laload, 1)) (ho : ¬ o = none) (ht : jt h (jd o) = 22) (hi : vp_in i (jn h (jd o))) (K : jG g y (pc + 1) lv (.inr (.inl (jL h (jd o) i.toNatClampNeg)) :: st) h k n Q) : jG g y pc lv (.inl i :: .inr (.inr o) :: st) h k n Q := by
  intro p e s m args below meth c H locs cells slots mc ms ls C hH hS hc hs hL
  have ha := hH.2.2.2.2 (jd o) 2 ht (by decide)
  generalize hA : jd o = a at *
  have ho' : o = some a := by rw [← hA]; exact jd_some ho
  subst ho'
  have hlt : i.toNatClampNeg < jn h a := Nat.not_le.mp fun q => hi (Or.inr q)
  exact W.lald (v := .long (jL h a i.toNatClampNeg)) C.1 C.2.1 ha ((C.2.2.2.2.2.2.2.2.2.1.1.2 2 _ (jtys_at g).2.2.1).1 _ _) (fun q => by cases q) (by rw [arrV_size]; exact hi) (by rw [arrV_read _ _ hlt]; rfl) rfl rfl hd (K p e s m args below meth c H locs cells slots mc ms ls C hH hS hc hs hL)
theorem jg_aald {o : Option Nat} {i : Int32} (hd : decode y.2.1 pc = .ok (.aaload, 1)) (ho : ¬ o = none) (ht : jt h (jd o) = 23) (hi : vp_in i (jn h (jd o))) (K : jG g y (pc + 1) lv (.inr (.inr (jR h (jd o) i.toNatClampNeg)) :: st) h k n Q) : jG g y pc lv (.inl i :: .inr (.inr o) :: st) h k n Q := by
  intro p e s m args below meth c H locs cells slots mc ms ls C hH hS hc hs hL
  have ha := hH.2.2.2.2 (jd o) 3 ht (by decide)
  generalize hA : jd o = a at *
  have ho' : o = some a := by rw [← hA]; exact jd_some ho
  subst ho'
  have hlt : i.toNatClampNeg < jn h a := Nat.not_le.mp fun q => hi (Or.inr q)
  exact W.aald (v := va_rf (jR h a i.toNatClampNeg)) (ty := .object RX0) C.1 C.2.1 ha ((C.2.2.2.2.2.2.2.2.2.1.1.2 3 _ (jtys_at g).2.2.2.1).1 _ _) rfl (fun q => by cases q) (by rw [arrV_size]; exact hi) (by rw [arrV_read _ _ hlt]; rfl) rfl rfl hd (K p e s m args below meth c H locs cells slots mc ms ls C hH hS hc hs hL)
theorem jg_alen {o : Option Nat} {t : Nat} (hd : decode y.2.1 pc = .ok (.arraylength, 1)) (ho : ¬ o = none) (ht : jt h (jd o) = t + 20) (h5 : t < 5) (K : jG g y (pc + 1) lv (.inl (nI (jn h (jd o))) :: st) h k n Q) : jG g y pc lv (.inr (.inr o) :: st) h k n Q := by
  intro p e s m args below meth c H locs cells slots mc ms ls C hH hS hc hs hL
  have ha := hH.2.2.2.2 (jd o) t ht h5
  generalize hA : jd o = a at *
  have ho' : o = some a := by rw [← hA]; exact jd_some ho
  subst ho'
  have hKt := C.2.2.2.2.2.2.2.2.2.1.1.2
  have k1 := K p e s m args below meth c H locs cells slots mc ms ls C hH hS hc hs hL
  match t, h5, ha with
  | 0, _, ha => exact W.alen (n := nI (jn h a)) C.1 C.2.1 ha ((hKt 0 _ (jtys_at g).1).1 _ _) (by rw [arrV_size] <;> rfl) rfl rfl hd k1
  | 1, _, ha => exact W.alen (n := nI (jn h a)) C.1 C.2.1 ha ((hKt 1 _ (jtys_at g).2.1).1 _ _) (by rw [arrV_size] <;> rfl) rfl rfl hd k1
  | 2, _, ha => exact W.alen (n := nI (jn h a)) C.1 C.2.1 ha ((hKt 2 _ (jtys_at g).2.2.1).1 _ _) (by rw [arrV_size] <;> rfl) rfl rfl hd k1
  | 3, _, ha => exact W.alen (n := nI (jn h a)) C.1 C.2.1 ha ((hKt 3 _ (jtys_at g).2.2.2.1).1 _ _) (by rw [arrV_size] <;> rfl) rfl rfl hd k1
  | 4, _, ha => exact W.alen (n := nI (jn h a)) C.1 C.2.1 ha ((hKt 4 _ (jtys_at g).2.2.2.2).1 _ _) (by rw [arrV_size] <;> rfl) rfl rfl hd k1
/-- the script -/
theorem jg_slen (hd : decode y.2.1 pc = .ok (.arraylength, 1)) (K : jG g y (pc + 1) lv (.inl (nI (jgL g)) :: st) h k n Q) : jG g y pc lv (.inr (.inr (some (jgs g))) :: st) h k n Q := by
  intro p e s m args below meth c H locs cells slots mc ms ls C hH hS hc hs hL
  obtain ⟨-, -, -, -, -, -, h7, h8, -⟩ := C.2.2.2.2.2.2.2.2.2.1
  exact va_slen C.1 C.2.1 h7 (Nat.lt_of_lt_of_le h8 C.2.2.2.2.2.2.2.2.2.2.2) (Nat.not_le.mpr h8) hS hd (K p e s m args below meth c H locs cells slots mc ms ls C hH hS hc hs hL)
theorem jg_sld {i : Int32} (hd : decode y.2.1 pc = .ok (.iaload, 1)) (hi : vp_in i (jgL g)) (K : jG g y (pc + 1) lv (.inl (jgx g i.toNatClampNeg) :: st) h k n Q) : jG g y pc lv (.inl i :: .inr (.inr (some (jgs g))) :: st) h k n Q := by
  intro p e s m args below meth c H locs cells slots mc ms ls C hH hS hc hs hL
  obtain ⟨-, -, -, -, -, -, h7, h8, -⟩ := C.2.2.2.2.2.2.2.2.2.1
  exact va_sld C.1 C.2.1 h7 (Nat.lt_of_lt_of_le h8 C.2.2.2.2.2.2.2.2.2.2.2) (Nat.not_le.mpr h8) hS hi hd (K p e s m args below meth c H locs cells slots mc ms ls C hH hS hc hs hL)
end JHp
