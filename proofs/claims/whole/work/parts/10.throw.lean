/-! rows of jG: 'throw new E("text")' -/
/-- the links of a throw: class, text, constructor; exception x of jxn -/
def jtw (own : String) (ik is ic x : Nat) (names : List String) (text : String) : Prop :=
  Bundle.fit (jxn x) = true ∧ (∀ n ∈ names, Bundle.fit n = true) ∧ Cond.classLink own ik (jxn x) ∈ jtb ∧ Cond.initialized (jxn x) ∈ jtb ∧ Cond.stringRef own is text ∈ lw_tbl ∧
  (∀ w ∈ vx_atS own ic (jxn x) names, w ∈ jtb ∨ w = Cond.castable (jxn x) (jxn x) ∨ ∃ q ∈ jdcl, w = Cond.declares q) ∧ (jxn x, jxn x) ∈ jcst ∧ (∀ w ∈ Cond.classLink own ik (jxn x) :: Cond.initialized (jxn x) :: vx_atS own ic (jxn x) names, vx_ot w = true)
theorem jH.grow {g : jg} {h : jh} {H H' : Heap} (hH : jH g h H) (e2 : H.size ≤ H'.size) (e3 : ∀ q, q < H.size → H'[q]? = H[q]?) : jH g (jgr h H'.size) H' := by
  obtain ⟨a1, a2, a3, a4, a5⟩ := hH
  refine ⟨rfl, Nat.le_trans a2 (by rw [← a1]; exact e2), fun b hb => ⟨(a3 b hb).1, Nat.lt_of_lt_of_le (a3 b hb).2 (by rw [← a1]; exact e2)⟩, fun b cj hb hcj => ?_, fun b t' hb h5' => ?_⟩
  · have hlt : b < H.size := by rw [a1]; exact (a3 b (by show jt h b ≠ 0; have : jt h b = cj + 1 := hb; omega)).2
    exact (a4 b cj hb hcj).kept (e3 b hlt)
  · have hlt : b < H.size := by rw [a1]; exact (a3 b (by show jt h b ≠ 0; have : jt h b = t' + 20 := hb; omega)).2
    rw [e3 b hlt]
    exact a5 b t' hb h5'
theorem jg_throw {g : jg} {y : jm} {pc : Nat} {lv : List (Nat × jv)} {st : List jv} {h : jh} {k n : Nat} {Q : jq} (x : Nat) (names : List String) (text : String) {ik is ic : Nat}
    (d0 : decode y.2.1 pc = .ok (.new ik, 3)) (d3 : decode y.2.1 (pc + 3) = .ok (.dup, 1)) (d4 : decode y.2.1 (pc + 4) = .ok (.ldc is, 2)) (d6 : decode y.2.1 (pc + 6) = .ok (.invokespecial ic, 3)) (d9 : decode y.2.1 (pc + 9) = .ok (.athrow, 1))
    (hl : jtw y.1.cls ik is ic x names text) (hf : names.length + 3 < y.2.2.2.2.1) (hlo : ((st.map jw).map fun v => v.category).sum + (13 * (names.length + 1) + 43) ≤ y.2.2.2.2.2) (hk : 1 ≤ k) (hn : 6 ≤ n)
    (hQ : ∀ z, jz h ≤ z → Q (.inr x) (jgr h z)) : jG g y pc lv st h k n Q := by
  intro p e s m args below meth c H locs cells slots mc ms ls C hH hS hc hs hL
  obtain ⟨t1, t2, t3, t4, t5, t6, t7, t8⟩ := hl
  have hts := C.2.2.2.2.2.1
  obtain ⟨-, z2, z3, z4, -, z6, -, -, -, -, z11, -⟩ := C.2.2.2.2.2.2.2.2.2.1
  obtain ⟨sa, hsa⟩ := z6 _ _ _ t5
  refine vx_throwS (names := names) (ik := ik) (ic := ic) (is := is) C.1 C.2.1 C.2.2.2.2.2.2.2.2.2.2.1 C.2.2.2.2.1 t1 t2 (hts _ t3) (hts _ t4) hsa (fun w hw => ?_) t8 z2 z3 hS (hL.1.trans C.2.2.2.1.symm) d0 d3 d4 d6 d9 (fun x hx => (C.2.2.2.2.2.2.2.2.1 x hx).elim) hf hlo (show cells + 1 ≤ mc by omega) (show slots + 6 ≤ ms by omega) C.2.2.2.2.2.2.1 (fun t _ w1 w2 => ?_) hS.2.2 (by omega) (by omega)
  · rcases t6 w hw with hw | rfl | ⟨q, hq, rfl⟩
    · exact hts _ hw
    · exact va_Nw.use rfl (z4 _ t7)
    · exact va_Nw.use rfl (z11 q hq)
  · refine ⟨⟨x, jgr h t.heap.size, rfl, hQ _ (by rw [← hH.1]; exact w1), hH.grow w1 w2⟩, Nat.le_trans hS.1 w1, fun q q1 q2 => ?_⟩
    rw [w2 q (Nat.lt_of_lt_of_le q1 hS.1)]
    exact hS.2.1 q q1 q2
