/-! rows of the judgement jG -/
theorem jS.warm {g : jg} {s U : State} (h : jS g s) (hW : s.WarmedH U.vm) (hq : ∀ a : Nat, a < s.heap.size → ¬ jA g a → U.heap[a]? = s.heap[a]?) (hb : jgb g ≤ s.heap.size) : jS g U := by
  obtain ⟨h1, h2, h3, h4, h5, h6, h7, h8, h9, h10, h11, h12⟩ := h
  refine ⟨va_K.moved hW.alike h1, vx_Zq.moved hW.alike (h2.kept hq), vx_Zq.moved hW.alike (h3.kept hq), fun q hq => va_Nw.warmC hW (h4 q hq), fun q hq => va_Nw.warmM hW (h5 q hq), fun own k tx hm => ?_, ?_, h8, va_AO.moved hW.alike h9, h10, fun x hx => va_Nw.warmD hW (h11 x hx), va_Nc.moved hW.alike h12⟩
  · obtain ⟨a, ha⟩ := h6 own k tx hm
    exact ⟨a, vk_R.warm hW ha⟩
  · obtain ⟨scr, e1, e2, e3⟩ := h7
    refine ⟨scr, ?_, State.isArrayOf_alike hW.alike e2, e3⟩
    rw [hq _ (Nat.lt_of_lt_of_le h8 hb) (Nat.not_le.mpr h8)]
    exact e1
theorem jP.blind (g : jg) (as : List jv) (h : jh) : FrameBlind (jP g as h) := by
  intro a U gf mk q
  obtain ⟨q1, q2, q3⟩ := q
  obtain ⟨h1, h2, h3, h4, h5, h6, h7, h8, h9, h10, h11, h12⟩ := q3
  refine ⟨q1, q2, va_K.moved (u := U) (U := U.calling gf mk a) (Vm.Alike.refl U.vm) h1, vx_Zq.moved (u := U) (U := U.calling gf mk a) (Vm.Alike.refl U.vm) h2, vx_Zq.moved (u := U) (U := U.calling gf mk a) (Vm.Alike.refl U.vm) h3,
    fun q hq => va_Nw.same rfl (u := U) (U := U.calling gf mk a) rfl (h4 q hq), fun q hq => va_Nw.same rfl (u := U) (U := U.calling gf mk a) rfl (h5 q hq), fun own k tx hm => ?_, ?_, h8, va_AO.moved (u := U) (U := U.calling gf mk a) (Vm.Alike.refl U.vm) h9, h10, fun x hx => va_Nw.same rfl (u := U) (U := U.calling gf mk a) rfl (h11 x hx), va_Nc.moved (u := U) (U := U.calling gf mk a) (Vm.Alike.refl U.vm) h12⟩
  · obtain ⟨a1, ha⟩ := h6 own k tx hm
    exact ⟨a1, vk_R.same (u := U) (U := U.calling gf mk a) rfl ha⟩
  · obtain ⟨scr, e1, e2, e3⟩ := h7
    exact ⟨scr, e1, State.isArrayOf_alike (Vm.Alike.refl U.vm) e2, e3⟩
/-- a long takes two places -/
def jlong : jv → Bool
  | .inr (.inl _) => true
  | _ => false
theorem jlong_cat (v : jv) : ((jw v).category == 2) = jlong v := by
  rcases v with x | x | x
  · rfl
  · rfl
  · cases x <;> rfl
def jlen : List jv → Nat
  | [] => 0
  | v :: r => (if jlong v then 2 else 1) + jlen r
def jla : Nat → List jv → List (Nat × jv)
  | _, [] => []
  | i, v :: r => (i, v) :: jla (i + (if jlong v then 2 else 1)) r
theorem jlong_if (v : jv) : (jw v).category = 2 ↔ jlong v = true := by
  rw [← jlong_cat]; simp
theorem jlen_eq (as : List jv) : (lg_sl (as.map jw)).length = jlen as := by
  induction as with
  | nil => rfl
  | cons v r ih =>
    have h : (lg_sl ((v :: r).map jw)).length = (if (jw v).category = 2 then 2 else 1) + (lg_sl (r.map jw)).length := by
      unfold lg_sl
      simp only [List.map_cons, List.flatMap_cons, List.length_append]
      split <;> rfl
    rw [h, ih]
    show _ = (if jlong v = true then 2 else 1) + jlen r
    simp only [jlong_if]
theorem jla_eq (as : List jv) : ∀ i, lv_args i (as.map jw) = jlv (jla i as) := by
  induction as with
  | nil => intro i; rfl
  | cons v r ih =>
    intro i
    show (i, jw v) :: lv_args (if (jw v).category = 2 then i + 2 else i + 1) (r.map jw) = (i, jw v) :: jlv (jla (i + (if jlong v then 2 else 1)) r)
    rw [ih]
    have e : (if (jw v).category = 2 then i + 2 else i + 1) = i + (if jlong v then 2 else 1) := by
      by_cases hh : jlong v = true
      · rw [if_pos ((jlong_if v).mpr hh), if_pos hh]
      · rw [if_neg (fun q => hh ((jlong_if v).mp q)), if_neg hh]
    rw [e]
/-- a contract out of the judgement at the method's entry -/
theorem jM.of {g : jg} {y : jm} {as : List jv} {h : jh} {mc ms : Nat} {Q : jq} (hy : plainName y.1.cls = true) (hn : jlen as ≤ y.2.2.1) {lv : List (Nat × jv)} (hlv : jla 0 as = lv)
    (K : jG g y 0 lv [] h mc ms Q) : jM g y as h mc ms Q := by
  refine vx_ofW (cc := y.2.1) (maxL := y.2.2.1) (ret := y.2.2.2.1) hy rfl ?_
  intro p e s m args below meth c s₁ B hml ht hv
  obtain ⟨rfl, hH, hS⟩ := hv
  have hts := atoms_spec (ws := jws y) B.pre
  have hl := lv_entry (as.map jw) (by rw [jlen_eq]; exact hn)
  rw [lg_entry_eq]
  rw [jla_eq, hlv] at hl
  have hb : jgb g ≤ s.heap.size := by rw [hH.1]; exact hH.2.1
  exact K p e s m _ below meth c s.heap [] 0 0 mc ms _ ⟨B.exec, B.bytes, B.returns, hml, findClass_of_methodNamed B.named, fun w hw => hts w (List.mem_cons_of_mem _ hw), B.notSynchronized, (name_of_methodNamed B.named B.method).1, ht, hS, hS.2.2.2.2.2.2.2.2.2.1, hb⟩ hH va_S.rf (Nat.le_of_eq (Nat.zero_add _)) (Nat.le_of_eq (Nat.zero_add _)) hl
section JR
variable {g : jg} {y : jm} {pc : Nat} {lv : List (Nat × jv)} {st : List jv} {h : jh} {k n : Nat} {Q : jq}
/-- fewer locals -/
theorem jG.sub {lv' : List (Nat × jv)} (hl : ∀ q ∈ lv', q ∈ lv) (K : jG g y pc lv' st h k n Q) : jG g y pc lv st h k n Q := by
  intro p e s m args below meth c H locs cells slots mc ms ls C hH hS hc hs hL
  refine K p e s m args below meth c H locs cells slots mc ms ls C hH hS hc hs ⟨hL.1, hL.2.1, fun q hq => hL.2.2 q ?_⟩
  obtain ⟨q0, h0, rfl⟩ := List.mem_map.mp hq
  exact List.mem_map.mpr ⟨q0, hl q0 h0, rfl⟩
theorem jlv_at {ls : Array Slot} {nL : Nat} {i : Nat} {v : jv} (hl : lv_has ls nL (jlv lv)) (hv : (i, v) ∈ lv) : ls[i]? = some (.val (jw v)) := hl.2.2 (i, jw v) (List.mem_map.mpr ⟨(i, v), hv, rfl⟩)
theorem jg_iconst {c0 : Int} {v : Int32} (hd : decode y.2.1 pc = .ok (.iconst c0, 1)) (hv : Int32.ofInt c0 = v) (K : jG g y (pc + 1) lv (.inl v :: st) h k n Q) : jG g y pc lv st h k n Q := by
  intro p e s m args below meth c H locs cells slots mc ms ls C hH hS hc hs hL
  exact lv_iconst C.1 C.2.1 hd hv (K p e s m args below meth c H locs cells slots mc ms ls C hH hS hc hs hL)
theorem jg_bipush {c0 : Int} {v : Int32} (hd : decode y.2.1 pc = .ok (.bipush c0, 2)) (hv : (Int8.ofInt c0).toInt32 = v) (K : jG g y (pc + 2) lv (.inl v :: st) h k n Q) : jG g y pc lv st h k n Q := by
  intro p e s m args below meth c H locs cells slots mc ms ls C hH hS hc hs hL
  exact lv_bipush C.1 C.2.1 hd hv (K p e s m args below meth c H locs cells slots mc ms ls C hH hS hc hs hL)
theorem jg_sipush {c0 : Int} {v : Int32} (hd : decode y.2.1 pc = .ok (.sipush c0, 3)) (hv : (Int16.ofInt c0).toInt32 = v) (K : jG g y (pc + 3) lv (.inl v :: st) h k n Q) : jG g y pc lv st h k n Q := by
  intro p e s m args below meth c H locs cells slots mc ms ls C hH hS hc hs hL
  exact lv_sipush C.1 C.2.1 hd hv (K p e s m args below meth c H locs cells slots mc ms ls C hH hS hc hs hL)
theorem jg_lconst {c0 : Fin 2} {v : Int64} (hd : decode y.2.1 pc = .ok (.lconst c0, 1)) (hv : Int64.ofNat (c0 : Nat) = v) (K : jG g y (pc + 1) lv (.inr (.inl v) :: st) h k n Q) : jG g y pc lv st h k n Q := by
  intro p e s m args below meth c H locs cells slots mc ms ls C hH hS hc hs hL
  exact lv_lconst C.1 C.2.1 hd hv (K p e s m args below meth c H locs cells slots mc ms ls C hH hS hc hs hL)
theorem jg_ldc2 {i : Nat} {v : Int64} (hd : decode y.2.1 pc = .ok (.ldc2_w i, 3)) (hw : Cond.constantLong y.1.cls i v ∈ jtb) (K : jG g y (pc + 3) lv (.inr (.inl v) :: st) h k n Q) : jG g y pc lv st h k n Q := by
  intro p e s m args below meth c H locs cells slots mc ms ls C hH hS hc hs hL
  exact lv_ldc2 C.1 C.2.1 C.2.2.2.2.1 (C.2.2.2.2.2.1 _ hw) hd (K p e s m args below meth c H locs cells slots mc ms ls C hH hS hc hs hL)
theorem jg_null (hd : decode y.2.1 pc = .ok (.aconst_null, 1)) (K : jG g y (pc + 1) lv (.inr (.inr none) :: st) h k n Q) : jG g y pc lv st h k n Q := by
  intro p e s m args below meth c H locs cells slots mc ms ls C hH hS hc hs hL
  exact lv_null C.1 C.2.1 hd (K p e s m args below meth c H locs cells slots mc ms ls C hH hS hc hs hL)
theorem jg_iload_n {i : Fin 4} {j : Nat} {x : Int32} (hd : decode y.2.1 pc = .ok (.iload_n i, 1)) (hi : (i : Nat) = j) (hv : (j, .inl x) ∈ lv) (K : jG g y (pc + 1) lv (.inl x :: st) h k n Q) : jG g y pc lv st h k n Q := by
  intro p e s m args below meth c H locs cells slots mc ms ls C hH hS hc hs hL
  exact lv_iload_n C.1 C.2.1 hd hi (jlv_at hL hv) (K p e s m args below meth c H locs cells slots mc ms ls C hH hS hc hs hL)
theorem jg_iload {j : Nat} {x : Int32} (hd : decode y.2.1 pc = .ok (.iload j, 2)) (hv : (j, .inl x) ∈ lv) (K : jG g y (pc + 2) lv (.inl x :: st) h k n Q) : jG g y pc lv st h k n Q := by
  intro p e s m args below meth c H locs cells slots mc ms ls C hH hS hc hs hL
  exact lv_iload C.1 C.2.1 hd (jlv_at hL hv) (K p e s m args below meth c H locs cells slots mc ms ls C hH hS hc hs hL)
theorem jg_lload_n {i : Fin 4} {j : Nat} {x : Int64} (hd : decode y.2.1 pc = .ok (.lload_n i, 1)) (hi : (i : Nat) = j) (hv : (j, .inr (.inl x)) ∈ lv) (K : jG g y (pc + 1) lv (.inr (.inl x) :: st) h k n Q) : jG g y pc lv st h k n Q := by
  intro p e s m args below meth c H locs cells slots mc ms ls C hH hS hc hs hL
  exact lv_lload_n C.1 C.2.1 hd hi (jlv_at hL hv) (K p e s m args below meth c H locs cells slots mc ms ls C hH hS hc hs hL)
theorem jg_lload {j : Nat} {x : Int64} (hd : decode y.2.1 pc = .ok (.lload j, 2)) (hv : (j, .inr (.inl x)) ∈ lv) (K : jG g y (pc + 2) lv (.inr (.inl x) :: st) h k n Q) : jG g y pc lv st h k n Q := by
  intro p e s m args below meth c H locs cells slots mc ms ls C hH hS hc hs hL
  exact lv_lload C.1 C.2.1 hd (jlv_at hL hv) (K p e s m args below meth c H locs cells slots mc ms ls C hH hS hc hs hL)
theorem jg_aload_n {i : Fin 4} {j : Nat} {o : Option Nat} (hd : decode y.2.1 pc = .ok (.aload_n i, 1)) (hi : (i : Nat) = j) (hv : (j, .inr (.inr o)) ∈ lv) (K : jG g y (pc + 1) lv (.inr (.inr o) :: st) h k n Q) : jG g y pc lv st h k n Q := by
  intro p e s m args below meth c H locs cells slots mc ms ls C hH hS hc hs hL
  have k1 := K p e s m args below meth c H locs cells slots mc ms ls C hH hS hc hs hL
  have k2 := jlv_at hL hv
  cases o with
  | none => exact lv_aload_nN C.1 C.2.1 hd hi k2 k1
  | some a => exact lv_aload_n C.1 C.2.1 hd hi k2 k1
theorem jg_aload {j : Nat} {o : Option Nat} (hd : decode y.2.1 pc = .ok (.aload j, 2)) (hv : (j, .inr (.inr o)) ∈ lv) (K : jG g y (pc + 2) lv (.inr (.inr o) :: st) h k n Q) : jG g y pc lv st h k n Q := by
  intro p e s m args below meth c H locs cells slots mc ms ls C hH hS hc hs hL
  have k1 := K p e s m args below meth c H locs cells slots mc ms ls C hH hS hc hs hL
  have k2 := jlv_at hL hv
  cases o with
  | none => exact lv_aloadN C.1 C.2.1 hd k2 k1
  | some a => exact lv_aload C.1 C.2.1 hd k2 k1
/-- locals behind a store: those of a long kept apart -/
def jst1 (lv : List (Nat × jv)) (i : Nat) : List (Nat × jv) := lv.filter (fun q => !(q.1 == i) && !(q.1 + 1 == i && jlong q.2))
def jst2 (lv : List (Nat × jv)) (i : Nat) : List (Nat × jv) := lv.filter (fun q => !(q.1 == i) && (!(q.1 == i + 1) && !(q.1 + 1 == i && jlong q.2)))
theorem jst1_lv (lv : List (Nat × jv)) (i : Nat) : (jlv lv).filter (fun q => !(q.1 == i) && !(q.1 + 1 == i && q.2.category == 2)) = jlv (jst1 lv i) := by
  unfold jlv jst1
  rw [List.filter_map]
  congr 1
  apply List.filter_congr
  intro q _
  simp only [Function.comp, jlong_cat]
theorem jst2_lv (lv : List (Nat × jv)) (i : Nat) : (jlv lv).filter (fun q => !(q.1 == i) && (!(q.1 == i + 1) && !(q.1 + 1 == i && q.2.category == 2))) = jlv (jst2 lv i) := by
  unfold jlv jst2
  rw [List.filter_map]
  congr 1
  apply List.filter_congr
  intro q _
  simp only [Function.comp, jlong_cat]
theorem jg_istore_n {i : Fin 4} {j : Nat} {x : Int32} {lv' : List (Nat × jv)} (hd : decode y.2.1 pc = .ok (.istore_n i, 1)) (hi : (i : Nat) = j) (hn : j < y.2.2.1) (hl : (j, .inl x) :: jst1 lv j = lv') (K : jG g y (pc + 1) lv' st h k n Q) : jG g y pc lv (.inl x :: st) h k n Q := by
  intro p e s m args below meth c H locs cells slots mc ms ls C hH hS hc hs hL
  subst hl
  exact lv_istore_n (lv' := jlv ((j, .inl x) :: jst1 lv j)) C.1 C.2.1 hd hi hL hn (by rw [jst1_lv]; rfl) (fun ls hl => K p e s m args below meth c H locs cells slots mc ms ls C hH hS hc hs hl)
theorem jg_istore {j : Nat} {x : Int32} {lv' : List (Nat × jv)} (hd : decode y.2.1 pc = .ok (.istore j, 2)) (hn : j < y.2.2.1) (hl : (j, .inl x) :: jst1 lv j = lv') (K : jG g y (pc + 2) lv' st h k n Q) : jG g y pc lv (.inl x :: st) h k n Q := by
  intro p e s m args below meth c H locs cells slots mc ms ls C hH hS hc hs hL
  subst hl
  exact lv_istore (lv' := jlv ((j, .inl x) :: jst1 lv j)) C.1 C.2.1 hd hL hn (by rw [jst1_lv]; rfl) (fun ls hl => K p e s m args below meth c H locs cells slots mc ms ls C hH hS hc hs hl)
theorem jg_lstore_n {i : Fin 4} {j : Nat} {x : Int64} {lv' : List (Nat × jv)} (hd : decode y.2.1 pc = .ok (.lstore_n i, 1)) (hi : (i : Nat) = j) (hn : j + 1 < y.2.2.1) (hl : (j, .inr (.inl x)) :: jst2 lv j = lv') (K : jG g y (pc + 1) lv' st h k n Q) : jG g y pc lv (.inr (.inl x) :: st) h k n Q := by
  intro p e s m args below meth c H locs cells slots mc ms ls C hH hS hc hs hL
  subst hl
  exact lv_lstore_n (lv' := jlv ((j, .inr (.inl x)) :: jst2 lv j)) C.1 C.2.1 hd hi hL hn (by rw [jst2_lv]; rfl) (fun ls hl => K p e s m args below meth c H locs cells slots mc ms ls C hH hS hc hs hl)
theorem jg_lstore {j : Nat} {x : Int64} {lv' : List (Nat × jv)} (hd : decode y.2.1 pc = .ok (.lstore j, 2)) (hn : j + 1 < y.2.2.1) (hl : (j, .inr (.inl x)) :: jst2 lv j = lv') (K : jG g y (pc + 2) lv' st h k n Q) : jG g y pc lv (.inr (.inl x) :: st) h k n Q := by
  intro p e s m args below meth c H locs cells slots mc ms ls C hH hS hc hs hL
  subst hl
  exact lv_lstore (lv' := jlv ((j, .inr (.inl x)) :: jst2 lv j)) C.1 C.2.1 hd hL hn (by rw [jst2_lv]; rfl) (fun ls hl => K p e s m args below meth c H locs cells slots mc ms ls C hH hS hc hs hl)
theorem jg_astore_n {i : Fin 4} {j : Nat} {o : Option Nat} {lv' : List (Nat × jv)} (hd : decode y.2.1 pc = .ok (.astore_n i, 1)) (hi : (i : Nat) = j) (hn : j < y.2.2.1) (hl : (j, .inr (.inr o)) :: jst1 lv j = lv') (K : jG g y (pc + 1) lv' st h k n Q) : jG g y pc lv (.inr (.inr o) :: st) h k n Q := by
  intro p e s m args below meth c H locs cells slots mc ms ls C hH hS hc hs hL
  subst hl
  cases o with
  | none => exact lv_astore_nN (lv' := jlv ((j, .inr (.inr none)) :: jst1 lv j)) C.1 C.2.1 hd hi hL hn (by rw [jst1_lv]; rfl) (fun ls hl => K p e s m args below meth c H locs cells slots mc ms ls C hH hS hc hs hl)
  | some a => exact lv_astore_n (lv' := jlv ((j, .inr (.inr (some a))) :: jst1 lv j)) C.1 C.2.1 hd hi hL hn (by rw [jst1_lv]; rfl) (fun ls hl => K p e s m args below meth c H locs cells slots mc ms ls C hH hS hc hs hl)
theorem jg_astore {j : Nat} {o : Option Nat} {lv' : List (Nat × jv)} (hd : decode y.2.1 pc = .ok (.astore j, 2)) (hn : j < y.2.2.1) (hl : (j, .inr (.inr o)) :: jst1 lv j = lv') (K : jG g y (pc + 2) lv' st h k n Q) : jG g y pc lv (.inr (.inr o) :: st) h k n Q := by
  intro p e s m args below meth c H locs cells slots mc ms ls C hH hS hc hs hL
  subst hl
  cases o with
  | none => exact lv_astoreN (lv' := jlv ((j, .inr (.inr none)) :: jst1 lv j)) C.1 C.2.1 hd hL hn (by rw [jst1_lv]; rfl) (fun ls hl => K p e s m args below meth c H locs cells slots mc ms ls C hH hS hc hs hl)
  | some a => exact lv_astore (lv' := jlv ((j, .inr (.inr (some a))) :: jst1 lv j)) C.1 C.2.1 hd hL hn (by rw [jst1_lv]; rfl) (fun ls hl => K p e s m args below meth c H locs cells slots mc ms ls C hH hS hc hs hl)
theorem jg_iinc {j : Nat} {c0 : Int} {x v : Int32} {lv' : List (Nat × jv)} (hd : decode y.2.1 pc = .ok (.iinc j c0, 3)) (hx : (j, .inl x) ∈ lv) (hv : x + Int32.ofInt c0 = v) (hn : j < y.2.2.1) (hl : (j, .inl v) :: jst1 lv j = lv') (K : jG g y (pc + 3) lv' st h k n Q) : jG g y pc lv st h k n Q := by
  intro p e s m args below meth c H locs cells slots mc ms ls C hH hS hc hs hL
  subst hl
  obtain ⟨i, hi⟩ := List.getElem?_of_mem hx
  exact lv_iinc (k := i) (lv' := jlv ((j, .inl v) :: jst1 lv j)) C.1 C.2.1 hd hL (by rw [jlv, List.getElem?_map, hi]; rfl) hv hn (by rw [jst1_lv]; rfl) (fun ls hl => K p e s m args below meth c H locs cells slots mc ms ls C hH hS hc hs hl)
end JR
