/-! rows of jG: writes into rows, new cells, returns -/
section JCe
variable {g : jg} {y : jm} {pc : Nat} {lv : List (Nat × jv)} {st : List jv} {h : jh} {k n : Nat} {Q : jq}
theorem jH.row {H H' : Heap} {h' : jh} {a t : Nat} (hH : jH g h H) (hz : jz h' = jz h) (ht : jt h' = jt h) (hn : jn h' = jn h) (hf : ∀ ci k b, jf h' ci k b = jf h ci k b) (hr : ∀ t b, b ≠ a → jrow h' t b = jrow h t b) (ha : jt h a = t + 20) (h5 : t < 5)
    (e1 : H'[a]? = some (arrV (jgA g t) (jn h a) (jrow h' t a))) (e2 : H'.size = H.size) (e3 : ∀ q, q ≠ a → H'[q]? = H[q]?) : jH g h' H' := by
  obtain ⟨a1, a2, a3, a4, a5⟩ := hH
  refine ⟨by rw [e2, a1, hz], by rw [hz]; exact a2, fun b hb => by rw [ht] at hb; rw [hz]; exact a3 b hb, fun b cj hb hcj => ?_, fun b t' hb h5' => ?_⟩
  · rw [ht] at hb
    have hba : b ≠ a := fun q => by subst q; omega
    obtain ⟨cell', z1, z2, z3, z4⟩ := a4 b cj hb hcj
    refine ⟨cell', by rw [e3 b hba]; exact z1, z2, z3, fun k' hk' => ?_⟩
    rw [z4 k' hk']
    show some (jw (jf h cj k' b)) = some (jw (jf h' cj k' b))
    rw [hf]
  · rw [ht] at hb
    by_cases hba : b = a
    · subst hba
      have : t' = t := by omega
      subst this
      rw [e1, hn]
    · rw [e3 b hba, a5 b t' hb h5', hn, hr t' b hba]
theorem jrow_I {a i : Nat} {x : Int32} {t : Nat} (h2 : t ≠ 2) (h3 : t ≠ 3) : jrow (jsI h a i x) t a = updV (jrow h t a) i (.int x) := by
  funext j
  unfold jrow updV
  split
  · exact absurd rfl h2
  · exact absurd rfl h3
  · by_cases hj : j = i
    · simp [hj, jsI, jI, jup]
    · simp [hj, jsI, jI, jup]
theorem jrow_L {a i : Nat} {x : Int64} : jrow (jsL h a i x) 2 a = updV (jrow h 2 a) i (.long x) := by
  funext j
  unfold jrow updV
  by_cases hj : j = i
  · simp [hj, jsL, jL, jup]
  · simp [hj, jsL, jL, jup]
theorem jrow_R {a i : Nat} {x : Option Nat} : jrow (jsR h a i x) 3 a = updV (jrow h 3 a) i (va_rf x) := by
  funext j
  unfold jrow updV
  by_cases hj : j = i
  · simp [hj, jsR, jR, jup]
  · simp [hj, jsR, jR, jup]
theorem jrow_Io {a b i : Nat} {x : Int32} {t : Nat} (hb : b ≠ a) : jrow (jsI h a i x) t b = jrow h t b := by
  funext j
  unfold jrow
  split <;> simp [jsI, jI, jL, jR, jup, hb]
theorem jrow_Lo {a b i : Nat} {x : Int64} {t : Nat} (hb : b ≠ a) : jrow (jsL h a i x) t b = jrow h t b := by
  funext j
  unfold jrow
  split <;> simp [jsL, jI, jL, jR, jup, hb]
theorem jrow_Ro {a b i : Nat} {x : Option Nat} {t : Nat} (hb : b ≠ a) : jrow (jsR h a i x) t b = jrow h t b := by
  funext j
  unfold jrow
  split <;> simp [jsR, jI, jL, jR, jup, hb]
theorem jg_iast {o : Option Nat} {i x : Int32} (hd : decode y.2.1 pc = .ok (.iastore, 1)) (ho : ¬ o = none) (ht : jt h (jd o) = 20) (hi : vp_in i (jn h (jd o))) (K : jG g y (pc + 1) lv st (jsI h (jd o) i.toNatClampNeg x) k n Q) : jG g y pc lv (.inl x :: .inl i :: .inr (.inr o) :: st) h k n Q := by
  intro p e s m args below meth c H locs cells slots mc ms ls C hH hS hc hs hL
  have ha := hH.2.2.2.2 (jd o) 0 ht (by decide)
  generalize hA : jd o = a at *
  have ho' : o = some a := by rw [← hA]; exact jd_some ho
  subst ho'
  have hba : jA g a := (hH.2.2.1 a (by omega)).1
  refine W.iast C.1 C.2.1 ha ((C.2.2.2.2.2.2.2.2.2.1.1.2 0 _ (jtys_at g).1).1 _ _) (fun q => by cases q) (by rw [arrV_size]; exact hi) rfl rfl hd fun H1 e1 e2 e3 => ?_
  rw [arrV_store] at e1
  exact K p e s m args below meth c H1 _ cells slots mc ms ls C (hH.row rfl rfl rfl (fun _ _ _ => rfl) (fun _ _ hb => jrow_Io hb) ht (by decide) (by rw [e1, jrow_I (by decide) (by decide)]) e2 e3) (hS.put e2 e3 hba) hc hs hL
theorem jg_bast {o : Option Nat} {i x : Int32} (hd : decode y.2.1 pc = .ok (.bastore, 1)) (ho : ¬ o = none) (ht : jt h (jd o) = 21) (hi : vp_in i (jn h (jd o))) (K : jG g y (pc + 1) lv st (jsI h (jd o) i.toNatClampNeg x.toInt8.toInt32) k n Q) : jG g y pc lv (.inl x :: .inl i :: .inr (.inr o) :: st) h k n Q := by
  intro p e s m args below meth c H locs cells slots mc ms ls C hH hS hc hs hL
  have ha := hH.2.2.2.2 (jd o) 1 ht (by decide)
  generalize hA : jd o = a at *
  have ho' : o = some a := by rw [← hA]; exact jd_some ho
  subst ho'
  have hba : jA g a := (hH.2.2.1 a (by omega)).1
  refine W.bast C.1 C.2.1 ha ((C.2.2.2.2.2.2.2.2.2.1.1.2 1 _ (jtys_at g).2.1).1 _ _) (fun q => by cases q) (by rw [arrV_size]; exact hi) rfl rfl hd fun H1 e1 e2 e3 => ?_
  rw [arrV_store] at e1
  exact K p e s m args below meth c H1 _ cells slots mc ms ls C (hH.row rfl rfl rfl (fun _ _ _ => rfl) (fun _ _ hb => jrow_Io hb) ht (by decide) (by rw [e1, jrow_I (by decide) (by decide)]; rfl) e2 e3) (hS.put e2 e3 hba) hc hs hL
theorem jg_zast {o : Option Nat} {i x : Int32} (hd : decode y.2.1 pc = .ok (.bastore, 1)) (ho : ¬ o = none) (ht : jt h (jd o) = 24) (hi : vp_in i (jn h (jd o))) (hx : x = 0 ∨ x = 1) (K : jG g y (pc + 1) lv st (jsI h (jd o) i.toNatClampNeg x) k n Q) : jG g y pc lv (.inl x :: .inl i :: .inr (.inr o) :: st) h k n Q := by
  intro p e s m args below meth c H locs cells slots mc ms ls C hH hS hc hs hL
  have ha := hH.2.2.2.2 (jd o) 4 ht (by decide)
  generalize hA : jd o = a at *
  have ho' : o = some a := by rw [← hA]; exact jd_some ho
  subst ho'
  have hba : jA g a := (hH.2.2.1 a (by omega)).1
  refine W.zast C.1 C.2.1 ha ((C.2.2.2.2.2.2.2.2.2.1.1.2 4 _ (jtys_at g).2.2.2.2).1 _ _) (fun q => by cases q) (by rw [arrV_size]; exact hi) rfl rfl hd fun H1 e1 e2 e3 => ?_
  rw [arrV_store] at e1
  exact K p e s m args below meth c H1 _ cells slots mc ms ls C (hH.row rfl rfl rfl (fun _ _ _ => rfl) (fun _ _ hb => jrow_Io hb) ht (by decide) (by rw [e1, jrow_I (by decide) (by decide)]; rcases hx with rfl | rfl <;> rfl) e2 e3) (hS.put e2 e3 hba) hc hs hL
theorem jg_last {o : Option Nat} {i : Int32} {x : Int64} (hd : decode y.2.1 pc = .ok (.lastore, 1)) (ho : ¬ o = none) (ht : jt h (jd o) = 22) (hi : vp_in i (jn h (jd o))) (K : jG g y (pc + 1) lv st (jsL h (jd o) i.toNatClampNeg x) k n Q) : jG g y pc lv (.inr (.inl x) :: .inl i :: .inr (.inr o) :: st) h k n Q := by
  intro p e s m args below meth c H locs cells slots mc ms ls C hH hS hc hs hL
  have ha := hH.2.2.2.2 (jd o) 2 ht (by decide)
  generalize hA : jd o = a at *
  have ho' : o = some a := by rw [← hA]; exact jd_some ho
  subst ho'
  have hba : jA g a := (hH.2.2.1 a (by omega)).1
  refine W.last C.1 C.2.1 ha ((C.2.2.2.2.2.2.2.2.2.1.1.2 2 _ (jtys_at g).2.2.1).1 _ _) (fun q => by cases q) (by rw [arrV_size]; exact hi) rfl rfl hd fun H1 e1 e2 e3 => ?_
  rw [arrV_store] at e1
  exact K p e s m args below meth c H1 _ cells slots mc ms ls C (hH.row rfl rfl rfl (fun _ _ _ => rfl) (fun _ _ hb => jrow_Lo hb) ht (by decide) (by rw [e1, jrow_L]) e2 e3) (hS.put e2 e3 hba) hc hs hL
theorem jg_aast {o : Option Nat} {i : Int32} {v : Nat} (hd : decode y.2.1 pc = .ok (.aastore, 1)) (ho : ¬ o = none) (ht : jt h (jd o) = 23) (hi : vp_in i (jn h (jd o))) (hv : jt h v = 1) (K : jG g y (pc + 1) lv st (jsR h (jd o) i.toNatClampNeg (some v)) k n Q) : jG g y pc lv (.inr (.inr (some v)) :: .inl i :: .inr (.inr o) :: st) h k n Q := by
  intro p e s m args below meth c H locs cells slots mc ms ls C hH hS hc hs hL
  have ha := hH.2.2.2.2 (jd o) 3 ht (by decide)
  generalize hA : jd o = a at *
  have ho' : o = some a := by rw [← hA]; exact jd_some ho
  subst ho'
  have hba : jA g a := (hH.2.2.1 a (by omega)).1
  have hK := C.2.2.2.2.2.2.2.2.2.1.1
  have hlt : i.toNatClampNeg < jn h a := Nat.not_le.mp fun q => hi (Or.inr q)
  have h0 : ¬ i < 0 := fun q => hi (Or.inl q)
  obtain ⟨cellV, g1, g2, g3, -⟩ := hH.2.2.2.1 v 0 hv (by decide)
  have hcls := (hK.1 0 (RX0, TX0, 20) rfl).2
  obtain ⟨kA, comp, k1, k2, k3, -⟩ := (hK.2 3 _ (jtys_at g).2.2.2.1).2
  have hcomp : comp = (jgD g).1 0 := Option.some.inj (k3.symm.trans hcls.1)
  subst hcomp
  obtain ⟨kC, hkC, -⟩ := hcls.2
  refine W.aast C.1 C.2.1 ha (fun q h => by cases h) (fun h => by cases h) k1 k2 rfl hkC ⟨h0, by rw [arrV_size]; exact hlt⟩ g1 (fun q h => by rw [g3] at h; cases h) (by rw [g2]; exact hkC) (by rw [g2]; exact va_assign hcls) rfl rfl hd fun H1 e1 e2 e3 => ?_
  rw [arrV_store] at e1
  exact K p e s m args below meth c H1 _ cells slots mc ms ls C (hH.row rfl rfl rfl (fun _ _ _ => rfl) (fun _ _ hb => jrow_Ro hb) ht (by decide) (by rw [e1, jrow_R]; rfl) e2 e3) (hS.put e2 e3 hba) hc hs hL
/-- one cell more -/
theorem jH.more {H H' : Heap} {t N : Nat} (hH : jH g h H) (ht : (∃ ci, t = ci + 1 ∧ ci < 9 ∧ t_OB (jz h) ((jgD g).1 ci) (jNc ci) ((jgD g).2 ci) H' (fun k => jw (jf (jmk h t N) ci k (jz h)))) ∨ (∃ r, t = r + 20 ∧ r < 5 ∧ H'[jz h]? = some (arrV (jgA g r) N (jrow (jmk h t N) r (jz h)))))
    (e2 : H'.size = jz h + 1) (e3 : ∀ q, q < jz h → H'[q]? = H[q]?) : jH g (jmk h t N) H' := by
  obtain ⟨a1, a2, a3, a4, a5⟩ := hH
  have hnew : jt (jmk h t N) (jz h) = t := by simp [jmk, jt]
  have hold : ∀ b, b ≠ jz h → jt (jmk h t N) b = jt h b := fun b hb => by simp [jmk, jt, hb]
  refine ⟨e2, Nat.le_succ_of_le a2, fun b hb => ?_, fun b cj hb hcj => ?_, fun b t' hb h5' => ?_⟩
  · by_cases hbz : b = jz h
    · subst hbz; exact ⟨a2, Nat.lt_succ_self _⟩
    · rw [hold b hbz] at hb
      exact ⟨(a3 b hb).1, Nat.lt_succ_of_lt (a3 b hb).2⟩
  · by_cases hbz : b = jz h
    · subst hbz
      rw [hnew] at hb
      rcases ht with ⟨ci, e, hci, ob⟩ | ⟨r, e, hr, -⟩
      · have : cj = ci := by omega
        subst this; exact ob
      · omega
    · rw [hold b hbz] at hb
      have hlt := (a3 b (by omega)).2
      obtain ⟨cell', z1, z2, z3, z4⟩ := a4 b cj hb hcj
      refine ⟨cell', by rw [e3 b hlt]; exact z1, z2, z3, fun k' hk' => ?_⟩
      rw [z4 k' hk']
      show some (jw (jf h cj k' b)) = some (jw (jf (jmk h t N) cj k' b))
      have : jf (jmk h t N) cj k' b = jf h cj k' b := by
        unfold jf
        split <;> simp [jmk, ji, jl, jr, hbz]
      rw [this]
  · by_cases hbz : b = jz h
    · subst hbz
      rw [hnew] at hb
      rcases ht with ⟨ci, e, hci, -⟩ | ⟨r, e, hr, ob⟩
      · omega
      · have : t' = r := by omega
        subst this
        rw [ob]
        have : jn (jmk h t N) (jz h) = N := by simp [jmk, jn]
        rw [this]
    · rw [hold b hbz] at hb
      have hlt := (a3 b (by omega)).2
      have hn : jn (jmk h t N) b = jn h b := by simp [jmk, jn, hbz]
      have hr : jrow (jmk h t N) t' b = jrow h t' b := by
        funext j
        unfold jrow
        split <;> simp [jmk, jI, jL, jR, hbz]
      rw [e3 b hlt, a5 b t' hb h5', hn, hr]
theorem jdef : ∀ ci, ci < 9 → ∀ k, k < jNc ci → (jkd (jtyc ci k) = 0 → defaultValue (jtyc ci k) = .int 0) ∧ (jkd (jtyc ci k) = 1 → defaultValue (jtyc ci k) = .long 0) ∧ (jkd (jtyc ci k) = 2 → defaultValue (jtyc ci k) = .null) := by decide +kernel
theorem jkd_le (ty : FieldType) : jkd ty = 0 ∨ jkd ty = 1 ∨ jkd ty = 2 := by
  cases ty <;> simp [jkd]
/-- entry 'index' of a class's pool is class ci, of N fields, which can be made -/
def jnl (own : String) (index ci N : Nat) : Prop := ∃ (C : String) (T : u_T), jcl[ci]? = some (C, T, N) ∧ N = jNc ci ∧ (∀ w ∈ u_ws C T N, w ∈ jtb) ∧ (∀ k, k < N → parseFieldDescriptor (T k).2.2.1 = some (jtyc ci k)) ∧ Cond.classLink own index C ∈ jtb ∧ Cond.instantiable C N ∈ jtb ∧ Cond.initialized C ∈ jtb
theorem jg_new {index ci N : Nat} (hd : decode y.2.1 pc = .ok (.new index, 3)) (hf : jnl y.1.cls index ci N) (hk : 1 ≤ k) (hn : N ≤ n) (K : jG g y (pc + 3) lv (.inr (.inr (some (jz h))) :: st) (jmk h (ci + 1) 0) (k - 1) (n - N) Q) : jG g y pc lv st h k n Q := by
  intro p e s m args below meth c H locs cells slots mc ms ls C hH hS hc hs hL
  obtain ⟨Cn, T, h1, h2, h3, hty, h4, h5, h6⟩ := hf
  have hts := C.2.2.2.2.2.1
  have hK := C.2.2.2.2.2.2.2.2.2.1.1
  have hKn := hK.1 ci _ h1
  refine W.newcK C.1 C.2.1 C.2.2.2.2.1 (hts _ h4) (hts _ h5) (hts _ h6) rfl hd (show cells + 1 ≤ mc by omega) (show slots + N ≤ ms by omega) hKn.2.1 hH.1 fun H1 kC hkC e1 e2 e3 => ?_
  have ob := u_born (jtyc ci) hts h3 hKn hkC e1 hty
  have hci := jcl_lt h1
  refine K p e s m args below meth c H1 locs (cells + 1) (slots + N) mc ms ls C (hH.more (Or.inl ⟨ci, rfl, hci, ?_⟩) e2 e3) ⟨Nat.le_trans hS.1 (by rw [hH.1, e2]; omega), fun q q1 q2 => (e3 q (by have := hS.1; rw [hH.1] at this; omega)).trans (hS.2.1 q q1 q2), hS.2.2⟩ (by omega) (by omega) hL
  rw [← h2]
  refine ob.to fun k' hk' => ?_
  have hdd := jdef ci hci k' (by rw [← h2]; exact hk')
  unfold jf
  rcases jkd_le (jtyc ci k') with hz | hz | hz
  · rw [hz, hdd.1 hz]; simp [jmk, ji, jw]
  · rw [hz, hdd.2.1 hz]; simp [jmk, jl, jw]
  · rw [hz, hdd.2.2 hz]; simp [jmk, jr, jw, va_rf]
theorem jg_newa {at0 : ArrayType} {t : Nat} {i : Int32} (hd : decode y.2.1 pc = .ok (.newarray at0, 2)) (h5 : t < 5) (hw : Cond.arrayClass (newarray.typeOf at0) ∈ jtb) (hty : (jtys g)[t]? = some (jgA g t, newarray.typeOf at0)) (hdv : ∀ N, (fun _ => defaultValue (newarray.typeOf at0)) = jrow (jmk h (t + 20) N) t (jz h)) (hi : ¬ i < 0) (hb : i.toNatClampNeg * componentBytes (newarray.typeOf at0) ≤ 536870912)
    (hk : 1 ≤ k) (hn : i.toNatClampNeg ≤ n) (K : jG g y (pc + 2) lv (.inr (.inr (some (jz h))) :: st) (jmk h (t + 20) i.toNatClampNeg) (k - 1) (n - i.toNatClampNeg) Q) : jG g y pc lv (.inl i :: st) h k n Q := by
  intro p e s m args below meth c H locs cells slots mc ms ls C hH hS hc hs hL
  have hts := C.2.2.2.2.2.1
  have hK := C.2.2.2.2.2.2.2.2.2.1.1
  refine va_newaK C.1 C.2.1 (hts _ hw) rfl hd rfl hi rfl hb (show cells + 1 ≤ mc by omega) (show slots + i.toNatClampNeg ≤ ms by omega) hH.1 fun H1 cA e1 e2 e3 hAr hNm => ?_
  have hcA : cA = jgA g t := by
    have hra := (hK.2 t _ hty).2
    have : s.vm.findClass ("[" ++ (newarray.typeOf at0).toString) = some (jgA g t) := by cases at0 <;> exact hra
    exact Option.some.inj (hNm.symm.trans this)
  subst hcA
  refine K p e s m args below meth c H1 locs (cells + 1) (slots + i.toNatClampNeg) mc ms ls C (hH.more (Or.inr ⟨t, rfl, h5, ?_⟩) e2 e3) ⟨Nat.le_trans hS.1 (by rw [hH.1, e2]; omega), fun q q1 q2 => (e3 q (by have := hS.1; rw [hH.1] at this; omega)).trans (hS.2.1 q q1 q2), hS.2.2⟩ (by omega) (by omega) hL
  rw [e1, hdv]
theorem jg_newI {i : Int32} (hd : decode y.2.1 pc = .ok (.newarray .int, 2)) (hw : Cond.arrayClass .int ∈ jtb) (hi : ¬ i < 0) (hb : i.toNatClampNeg * 4 ≤ 536870912) (hk : 1 ≤ k) (hn : i.toNatClampNeg ≤ n) (K : jG g y (pc + 2) lv (.inr (.inr (some (jz h))) :: st) (jmk h 20 i.toNatClampNeg) (k - 1) (n - i.toNatClampNeg) Q) : jG g y pc lv (.inl i :: st) h k n Q :=
  jg_newa (t := 0) hd (by decide) hw rfl (fun N => by funext j; simp [jrow, jmk, jI]; rfl) hi hb hk hn K
theorem jg_newB {i : Int32} (hd : decode y.2.1 pc = .ok (.newarray .byte, 2)) (hw : Cond.arrayClass .byte ∈ jtb) (hi : ¬ i < 0) (hb : i.toNatClampNeg * 1 ≤ 536870912) (hk : 1 ≤ k) (hn : i.toNatClampNeg ≤ n) (K : jG g y (pc + 2) lv (.inr (.inr (some (jz h))) :: st) (jmk h 21 i.toNatClampNeg) (k - 1) (n - i.toNatClampNeg) Q) : jG g y pc lv (.inl i :: st) h k n Q :=
  jg_newa (t := 1) hd (by decide) hw rfl (fun N => by funext j; simp [jrow, jmk, jI]; rfl) hi hb hk hn K
theorem jg_newZ {i : Int32} (hd : decode y.2.1 pc = .ok (.newarray .boolean, 2)) (hw : Cond.arrayClass .boolean ∈ jtb) (hi : ¬ i < 0) (hb : i.toNatClampNeg * 1 ≤ 536870912) (hk : 1 ≤ k) (hn : i.toNatClampNeg ≤ n) (K : jG g y (pc + 2) lv (.inr (.inr (some (jz h))) :: st) (jmk h 24 i.toNatClampNeg) (k - 1) (n - i.toNatClampNeg) Q) : jG g y pc lv (.inl i :: st) h k n Q :=
  jg_newa (t := 4) hd (by decide) hw rfl (fun N => by funext j; simp [jrow, jmk, jI]; rfl) hi hb hk hn K
theorem jg_newJ {i : Int32} (hd : decode y.2.1 pc = .ok (.newarray .long, 2)) (hw : Cond.arrayClass .long ∈ jtb) (hi : ¬ i < 0) (hb : i.toNatClampNeg * 8 ≤ 536870912) (hk : 1 ≤ k) (hn : i.toNatClampNeg ≤ n) (K : jG g y (pc + 2) lv (.inr (.inr (some (jz h))) :: st) (jmk h 22 i.toNatClampNeg) (k - 1) (n - i.toNatClampNeg) Q) : jG g y pc lv (.inl i :: st) h k n Q :=
  jg_newa (t := 2) hd (by decide) hw rfl (fun N => by funext j; simp [jrow, jmk, jL]; rfl) hi hb hk hn K
theorem jg_newR {index : Nat} {i : Int32} (hd : decode y.2.1 pc = .ok (.anewarray index, 3)) (hw : Cond.classLink y.1.cls index RX0 ∈ jtb) (hi : ¬ i < 0) (hb : i.toNatClampNeg * 4 ≤ 536870912) (hk : 1 ≤ k) (hn : i.toNatClampNeg ≤ n) (K : jG g y (pc + 3) lv (.inr (.inr (some (jz h))) :: st) (jmk h 23 i.toNatClampNeg) (k - 1) (n - i.toNatClampNeg) Q) : jG g y pc lv (.inl i :: st) h k n Q := by
  intro p e s m args below meth c H locs cells slots mc ms ls C hH hS hc hs hL
  have hts := C.2.2.2.2.2.1
  have hK := C.2.2.2.2.2.2.2.2.2.1.1
  have hAO := C.2.2.2.2.2.2.2.2.2.1.2.2.2.2.2.2.2.2.1
  refine W.anew C.1 C.2.1 C.2.2.2.2.1 (hts _ hw) (va_AO.use hAO) rfl hd rfl hi hb (show cells + 1 ≤ mc by omega) (show slots + i.toNatClampNeg ≤ ms by omega) fun cA kA comp f1 f2 f3 f4 => ?_
  have hcA : cA = jgA g 3 := by
    obtain ⟨kA', comp', z1, z2, z3, z4⟩ := (hK.2 3 _ (jtys_at g).2.2.2.1).2
    exact Option.some.inj (f1.symm.trans z4)
  subst hcA
  have e3 : ∀ q, q < jz h → (H.push { cls := jgA g 3, slots := Array.replicate i.toNatClampNeg .null, vm := .none })[q]? = H[q]? := fun q hq => by
    rw [Array.getElem?_push, if_neg (by rw [hH.1]; exact Nat.ne_of_lt hq)]
  have e2 : (H.push { cls := jgA g 3, slots := Array.replicate i.toNatClampNeg Value.null, vm := .none }).size = jz h + 1 := by rw [Array.size_push, hH.1]
  have hzz : Value.ref H.size = Value.ref (jz h) := by rw [hH.1]
  rw [hzz]
  refine K p e s m args below meth c _ locs (cells + 1) (slots + i.toNatClampNeg) mc ms ls C (hH.more (Or.inr ⟨3, rfl, by decide, ?_⟩) e2 e3) ⟨Nat.le_trans hS.1 (by rw [hH.1, e2]; omega), fun q q1 q2 => (e3 q (by have := hS.1; rw [hH.1] at this; omega)).trans (hS.2.1 q q1 q2), hS.2.2⟩ (by omega) (by omega) hL
  have e1 : (H.push { cls := jgA g 3, slots := Array.replicate i.toNatClampNeg Value.null, vm := .none })[jz h]? = some { cls := jgA g 3, slots := Array.replicate i.toNatClampNeg Value.null, vm := .none } := by
    rw [← hH.1]; simp
  rw [e1]
  congr 1
  have hr : jrow (jmk h (3 + 20) i.toNatClampNeg) 3 (jz h) = fun _ => Value.null := by
    funext j
    simp [jrow, jmk, jR, va_rf]
  rw [hr]
  unfold arrV
  congr 1
  apply Array.ext
  · simp
  · intro j h1 h2; simp
/-- Object's constructor -/
theorem jg_objInit {o : Option Nat} {index : Nat} (hd : decode y.2.1 pc = .ok (.invokespecial index, 3)) (ho : ¬ o = none) (h1 : Cond.methodLink y.1.cls index Lib.objectInit ∈ jtb) (h2 : Cond.instanceMethod Lib.objectInit ∈ jtb) (h3 : Cond.code Lib.objectInit ⟨#[0xb1]⟩ 1 none ∈ jtb) (hf : 1 ≤ y.2.2.2.2.1) (hl : ((st.map jw).map fun v => v.category).sum + 12 ≤ y.2.2.2.2.2)
    (K : jG g y (pc + 3) lv st h k n Q) : jG g y pc lv (.inr (.inr o) :: st) h k n Q := by
  intro p e s m args below meth c H locs cells slots mc ms ls C hH hS hc hs hL
  have hts := C.2.2.2.2.2.1
  generalize hA : jd o = a at *
  have ho' : o = some a := by rw [← hA]; exact jd_some ho
  subst ho'
  refine W.objInit C.1 C.2.1 C.2.2.2.2.1 (hts _ h1) (hts _ h2) (hts _ h3) rfl (hL.1.trans C.2.2.2.1.symm) rfl hd hf ?_ (K p e s m args below meth c H locs cells slots mc ms ls C hH hS hc hs hL)
  show 2 * 0 + _ + 12 ≤ _
  rw [Nat.mul_zero, Nat.zero_add]
  exact hl
/-- returns -/
theorem jg_iret {x : Int32} (hd : decode y.2.1 pc = .ok (.ireturn, 1)) (hr : y.2.2.2.1 = some .int) (hq : Q (.inl (some (.inl x))) h) : jG g y pc lv [.inl x] h k n Q := by
  intro p e s m args below meth c H locs cells slots mc ms ls C hH hS hc hs hL
  refine vx_ret (W.widen (k := mc) (n := ms) (by omega) (by omega) ?_)
  exact W.iret (v := x) C.1 C.2.1 (C.2.2.1.trans hr) (fun t ht hW => ⟨⟨_, h, rfl, hq, by rw [ht]; exact hH⟩, hS.F ht⟩) hS.2.2 hd C.2.2.2.2.2.2.1
theorem jg_zret {x : Int32} {ty : FieldType} (hd : decode y.2.1 pc = .ok (.ireturn, 1)) (hr : y.2.2.2.1 = some ty) (hx : narrow ty (.int x) = .int x) (hq : Q (.inl (some (.inl x))) h) : jG g y pc lv [.inl x] h k n Q := by
  intro p e s m args below meth c H locs cells slots mc ms ls C hH hS hc hs hL
  refine vx_ret (W.widen (k := mc) (n := ms) (by omega) (by omega) ?_)
  exact W.zret (v := x) C.1 C.2.1 (C.2.2.1.trans hr) hx (fun t ht hW => ⟨⟨_, h, rfl, hq, by rw [ht]; exact hH⟩, hS.F ht⟩) hS.2.2 hd C.2.2.2.2.2.2.1
theorem jg_bret {x : Int32} (hd : decode y.2.1 pc = .ok (.ireturn, 1)) (hr : y.2.2.2.1 = some .boolean) (hx : x = 0 ∨ x = 1) (hq : Q (.inl (some (.inl x))) h) : jG g y pc lv [.inl x] h k n Q :=
  jg_zret hd hr (by rcases hx with rfl | rfl <;> rfl) hq
theorem jg_lret {x : Int64} (hd : decode y.2.1 pc = .ok (.lreturn, 1)) (hr : y.2.2.2.1 = some .long) (hq : Q (.inl (some (.inr (.inl x)))) h) : jG g y pc lv [.inr (.inl x)] h k n Q := by
  intro p e s m args below meth c H locs cells slots mc ms ls C hH hS hc hs hL
  refine vx_ret (W.widen (k := mc) (n := ms) (by omega) (by omega) ?_)
  exact W.lret (v := x) C.1 C.2.1 (C.2.2.1.trans hr) (fun t ht hW => ⟨⟨_, h, rfl, hq, by rw [ht]; exact hH⟩, hS.F ht⟩) hS.2.2 hd C.2.2.2.2.2.2.1
theorem jg_aret {o : Option Nat} {cn : String} (hd : decode y.2.1 pc = .ok (.areturn, 1)) (hr : y.2.2.2.1 = some (.object cn)) (hq : Q (.inl (some (.inr (.inr o)))) h) : jG g y pc lv [.inr (.inr o)] h k n Q := by
  intro p e s m args below meth c H locs cells slots mc ms ls C hH hS hc hs hL
  refine vx_ret (W.widen (k := mc) (n := ms) (by omega) (by omega) ?_)
  exact W.aret (v := va_rf o) C.1 C.2.1 (C.2.2.1.trans hr) (Or.inl ⟨cn, rfl⟩) (by cases o with | none => exact Or.inl rfl | some a => exact Or.inr ⟨a, rfl⟩) (fun t ht hW => ⟨⟨_, h, rfl, hq, by rw [ht]; exact hH⟩, hS.F ht⟩) hS.2.2 hd C.2.2.2.2.2.2.1
theorem jg_vret (hd : decode y.2.1 pc = .ok (.return_, 1)) (hr : y.2.2.2.1 = none) (hq : Q (.inl none) h) : jG g y pc lv [] h k n Q := by
  intro p e s m args below meth c H locs cells slots mc ms ls C hH hS hc hs hL
  refine vx_ret (W.widen (k := mc) (n := ms) (by omega) (by omega) ?_)
  exact W.vret C.1 C.2.1 (C.2.2.1.trans hr) (fun t ht hW => ⟨⟨none, h, rfl, hq, by rw [ht]; exact hH⟩, hS.F ht⟩) hS.2.2 hd C.2.2.2.2.2.2.1
end JCe
