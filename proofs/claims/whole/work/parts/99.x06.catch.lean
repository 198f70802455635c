/-! MY OWN LAW OF CATCHING: a table whose rows all cover the place, searched row by row; the catch types' pool entries cold or warm. -/
def jxF (pl : Platform) (s₀ : State) (d : ClassId) (pc : Nat) (thrown : ClassId) (hp : Nat) : List ExceptionTableEntry → Prop
  | [] => False
  | x :: t => covers x pc = true ∧ x.catchType ≠ 0 ∧ ∃ c, s₀.vm.ClassLinks pl d x.catchType c ∧ ((s₀.vm.assignable thrown c = true ∧ x.handlerPc = hp) ∨ (s₀.vm.assignable thrown c = false ∧ jxF pl s₀ d pc thrown hp t))
theorem jx_find {e : Env} {s₀ : State} {f : JFrame} {a : Addr} {cell : Cell} {hp : Nat} (ho : ∀ k, cell.vm ≠ .statics k) (hk : ∃ k, s₀.vm.classes[cell.cls]? = some k) :
    ∀ (t : List ExceptionTableEntry) (S : State), jxF e.platform s₀ f.method.cls f.pc cell.cls hp t → s₀.WarmedH S.vm → S.heap[a]? = some cell →
      ∃ vm', s₀.WarmedH vm' ∧ ∀ (Q : Handler → Pre) (E : CtlPost) (d : Bool) (acts : List Action), wp (findHandler.go f a t) Q E e d acts S ↔ Q (.found hp) d acts (S.setVm vm') := by
  obtain ⟨k0, hk0⟩ := hk
  intro t
  induction t with
  | nil => intro S h; exact h.elim
  | cons x t ih =>
    intro S h hW hcell
    obtain ⟨hx, h0, c, hl, hc⟩ := h
    simp only [covers] at hx
    obtain ⟨dk, _, _, kt, hd, _, _, _, _, hkt, _, hopen⟩ := hl.here
    have hl' := hW.classLinks hl
    obtain ⟨ha, ht⟩ := (resolveClass_links e.toSetting hl').op (op := VmOp.resolveClass f.method.cls x.catchType) rfl
    have hW1 : s₀.WarmedH (S.vm.noted f.method.cls x.catchType (.cls c)) := hW.noted hd hopen (State.rightAt_cls hl)
    obtain ⟨k1, hk1, -⟩ := hW1.alike.2.2 _ _ hk0
    obtain ⟨k2, hk2, -⟩ := hW1.alike.2.2 _ _ hkt
    rcases hc with ⟨hy, rfl⟩ | ⟨hno, hrest⟩
    · have hf : (S.vm.noted f.method.cls x.catchType (.cls c)).assignable cell.cls c = true := by rw [hW1.alike.assignable]; exact hy
      exact ⟨_, hW1, fun Q E d acts => by simp [findHandler.go, hx, h0, ha, ht, hcell, ho, hk1, hk2, hf, VmOp.dirties, VmOp.acts]⟩
    · have hf : (S.vm.noted f.method.cls x.catchType (.cls c)).assignable cell.cls c = false := by rw [hW1.alike.assignable]; exact hno
      obtain ⟨vm', hW', hq⟩ := ih (S.setVm (S.vm.noted f.method.cls x.catchType (.cls c))) hrest hW1 hcell
      refine ⟨vm', hW', fun Q E d acts => Iff.trans ?_ (hq Q E d acts)⟩
      simp [findHandler.go, hx, h0, ha, ht, hcell, ho, hk1, hk2, hf, VmOp.dirties, VmOp.acts]
theorem jx_step {e : Env} {s : State} {a : Addr} {f : JFrame} {r : List Frame} {hp : Nat} {vm' : Vm} {meth : Method} {code : Code} (hm : s.vm.method? f.method = some meth) (hc : meth.code = some code)
    (hq : ∀ (Q : Handler → Pre) (E : CtlPost) (d : Bool) (acts : List Action), wp (findHandler.go f a code.exceptionTable.toList) Q E e d acts s ↔ Q (.found hp) d acts (s.setVm vm')) :
    (stepThrowing e s a (.java f :: r)).1 = (s.setVm vm').setFrames (.java { f with pc := hp, stack := [.ref a] } :: r) := by
  have hf : ∀ (Q : Handler → Pre) (E : CtlPost) (d : Bool) (acts : List Action), wp (findHandler f a) Q E e d acts s ↔ Q (.found hp) d acts (s.setVm vm') := fun Q E d acts => (W.findHandler_eq hm hc).trans (hq Q E d acts)
  simp only [stepThrowing, searchFrame, vmDo]
  generalize hr : Sem.go _ e false [] s = res
  obtain ⟨as, rfl, ha⟩ := Sem.eq_ok_of hr (a := Handler.found hp) (s' := s.setVm vm') (acts' := []) (by simp [hf _ _ _ _])
  rfl
theorem jx_caught {p : Program} {l : Launch} {e : Env} {R : Room} {s : State} {m : MethodId} {args : Array Value} {below : List Frame} {meth : Method} {c : Code} {T : State} {locs : List Loc} {cells slots : Nat}
    (X : Stand p l e R s m args below meth c T locs cells slots) {a : Addr} {g : JFrame} (hg : g.method = m) {cell : Cell} (hcell : T.heap[a]? = some cell) (ho : cell.vm.isStatics = false) (hk : ∃ k, s.vm.classes[cell.cls]? = some k) {hp : Nat}
    (hF : jxF e.platform s m.cls g.pc cell.cls hp c.exceptionTable.toList) :
    ∃ vm', Stand p l e R s m args below meth c (T.setVm vm') locs cells slots ∧ ∀ target, Steps p.tables e below ((T.setVm vm').setTop { g with pc := hp, stack := [.ref a] }) target → Steps p.tables e below ((T.setTop g).pushFrame (.throwing a)) target := by
  subst hg
  obtain ⟨vm', hW', hq⟩ := jx_find (e := e) (f := g) (a := a) (VmData.ne_statics_of ho) hk _ ((T.setTop g).pushFrame (.throwing a)) hF X.warmed hcell
  refine ⟨vm', X.noted hW', fun target hr => ?_⟩
  obtain ⟨hgo, hw⟩ := X.here.throwing a
  refine Steps.head hgo hw ?_
  obtain ⟨g₀, hfr⟩ := X.frames_eq
  have hfr' : (T.setVm vm').frames = .java g₀ :: below := hfr
  rw [stepThread_throwing (frames_entered X.here.top _), jx_step (s := (T.setTop g).pushFrame (.throwing a)) X.method' X.code hq]
  rw [State.setTop_of_frames _ hfr'] at hr
  have e1 : (((T.setTop g).pushFrame (.throwing a)).setVm vm').setFrames (.java { g with pc := hp, stack := [.ref a] } :: T.frames.tail) = (T.setVm vm').setFrames (.java { g with pc := hp, stack := [.ref a] } :: below) := by
    rw [hfr, List.tail_cons, State.pushFrame, State.setTop_of_frames _ hfr, State.setFrames_setFrames]
    show ((T.setVm vm').setFrames _).setFrames _ = _
    rw [State.setFrames_setFrames]
  rw [e1]
  exact hr
/-! a method with a table of handlers of its own: hh its rows -/
def jCW (g : jg) (y : jm) (hh : List (Nat × Nat × Nat × Nat)) (p : Program) (s : State) (m : MethodId) (args : Array Value) (meth : Method) (c : Code) : Prop :=
  p.tables.exec = Jvm.exec ∧ c.code = y.2.1 ∧ meth.sig.returnType = y.2.2.2.1 ∧ c.maxLocals = y.2.2.1 ∧ s.vm.findClass y.1.cls = some m.cls ∧ (∀ w ∈ jtb, w.before args s = true) ∧ meth.locks = false ∧ meth.name = y.1.name ∧ c.exceptionTable.toList = tableOf hh ∧ jS g s ∧ g.1.stackTraces = false ∧ jgb g ≤ s.heap.size
def jGW (g : jg) (y : jm) (hh : List (Nat × Nat × Nat × Nat)) (pc : Nat) (lv : List (Nat × jv)) (st : List jv) (h : jh) (k n : Nat) (Q : jq) : Prop :=
  ∀ (p : Program) (e : Env) (s : State) (m : MethodId) (args : Array Value) (below : List Frame) (meth : Method) (c : Code) (H : Heap) (locs : List Loc) (cells slots mc ms : Nat) (ls : Array Slot),
    jCW g y hh p s m args meth c → jH g h H → va_S (jA g) s.heap H locs → cells + k ≤ mc → slots + n ≤ ms → lv_has ls y.2.2.1 (jlv lv) →
    W p g.1 e (jrm y mc ms) s m args below meth c H locs cells slots (vx_MQ below (jQ g Q) (jX g Q) args s mc ms (jA g)) (F0 m pc ls (st.map jw))
def jwsW (y : jm) (hh : List (Nat × Nat × Nat × Nat)) : List Cond := Cond.codeWith y.1 y.2.1 y.2.2.1 y.2.2.2.1 hh :: jtb
def jMW (g : jg) (y : jm) (hh : List (Nat × Nat × Nat × Nat)) (as : List jv) (h : jh) (mc ms : Nat) (Q : jq) : Prop := vx_Met g.1 y.1 (jwsW y hh) (jrm y mc ms) (jP g as h) (jQ g Q) (jX g Q) mc ms (jA g)
theorem jMW.mono {g : jg} {y : jm} {hh : List (Nat × Nat × Nat × Nat)} {as : List jv} {h : jh} {mc ms : Nat} {Q Q' : jq} (hQ : ∀ r h, Q r h → Q' r h) (hM : jMW g y hh as h mc ms Q) : jMW g y hh as h mc ms Q' := by
  refine MetFree.mono hM (fun _ _ z => z) (fun _ _ _ _ _ z => z) ?_
  intro a s o s' _ hq
  rcases hq with ⟨⟨⟨r, h', q1, q2, q3⟩, q4⟩, q5⟩ | ⟨q, q0, E, ce, L, ⟨⟨x, h', q1, q2, q3⟩, q4⟩, q5⟩
  · exact Or.inl ⟨⟨⟨r, h', q1, hQ _ _ q2, q3⟩, q4⟩, q5⟩
  · exact Or.inr ⟨q, q0, E, ce, L, ⟨⟨x, h', q1, hQ _ _ q2, q3⟩, q4⟩, q5⟩
theorem jMW.of {g : jg} {y : jm} {hh : List (Nat × Nat × Nat × Nat)} {as : List jv} {h : jh} {mc ms : Nat} {Q : jq} (hy : plainName y.1.cls = true) (hn : jlen as ≤ y.2.2.1) {lv : List (Nat × jv)} (hlv : jla 0 as = lv)
    (K : jGW g y hh 0 lv [] h mc ms Q) : jMW g y hh as h mc ms Q := by
  refine vx_ofWH (cc := y.2.1) (maxL := y.2.2.1) (ret := y.2.2.2.1) (hh := hh) hy rfl ?_
  intro p e s m args below meth c s₁ B hml hv
  obtain ⟨rfl, hH, hS⟩ := hv
  have hts := atoms_spec (ws := jwsW y hh) B.pre
  have ht := vx_table (x := y.1) B (hts _ List.mem_cons_self)
  have hl := lv_entry (as.map jw) (by rw [jlen_eq]; exact hn)
  rw [lg_entry_eq]
  rw [jla_eq, hlv] at hl
  have hb : jgb g ≤ s.heap.size := by rw [hH.1]; exact hH.2.1
  exact K p e s m _ below meth c s.heap [] 0 0 mc ms _ ⟨B.exec, B.bytes, B.returns, hml, findClass_of_methodNamed B.named, fun w hw => hts w (List.mem_cons_of_mem _ hw), B.notSynchronized, (name_of_methodNamed B.named B.method).1, ht, hS, hS.2.2.2.2.2.2.2.2.2.1, hb⟩ hH va_S.rf (Nat.le_of_eq (Nat.zero_add _)) (Nat.le_of_eq (Nat.zero_add _)) hl
/-- the rows that lead an exception x, thrown at pc, to the handler hp: each covers pc; those ahead of the last name IllegalArgumentException, and x is IllegalStateException -/
def jxR (own : String) (pc x hp : Nat) : List (Nat × Nat × Nat × Nat) → Prop
  | [] => False
  | q :: r => q.1 ≤ pc ∧ pc < q.2.1 ∧ q.2.2.2 ≠ 0 ∧ ((Cond.classLink own q.2.2.2 (jxn x) ∈ jtb ∧ q.2.2.1 = hp) ∨ (x = 2 ∧ Cond.classLink own q.2.2.2 (jxn 1) ∈ jtb ∧ jxR own pc x hp r))
theorem jcst_mem (x : Nat) : (jxn x, jxn x) ∈ jcst := by
  match x with
  | 0 => decide
  | 1 => decide
  | _ + 2 => show (jxn 2, jxn 2) ∈ jcst; decide
theorem jxR.F {g : jg} {pl : Platform} {s : State} {args : Array Value} {own : String} {d : ClassId} {pc x hp : Nat} {ce : Cell} (hpl : pl.magicAccessors = ({} : Platform).magicAccessors) (hown : s.vm.findClass own = some d) (hts : ∀ w ∈ jtb, w.before args s = true) (hS : jS g s) (hcl : s.vm.findClass (jxn x) = some ce.cls) :
    ∀ hh, jxR own pc x hp hh → jxF pl s d pc ce.cls hp (tableOf hh) := by
  intro hh
  induction hh with
  | nil => intro h; exact h
  | cons q r ih =>
    intro h
    obtain ⟨h1, h2, h3, h4⟩ := h
    refine ⟨by simp [covers, h1, h2], h3, ?_⟩
    rcases h4 with ⟨h5, h6⟩ | ⟨h5, h6, h7⟩
    · obtain ⟨c5, hc5, hcl5⟩ := Cond.classLink_spec hown (hts _ h5) pl hpl
      have hc := va_Nw.use (A := args) rfl (hS.2.2.2.1 _ (jcst_mem x))
      obtain ⟨c3, c4, hc3, hc4, hasg⟩ := Cond.castable_spec hc
      cases Option.some.inj (hc3.symm.trans hcl)
      cases Option.some.inj (hc4.symm.trans hc5)
      exact ⟨_, hcl5, Or.inl ⟨hasg, h6⟩⟩
    · subst h5
      obtain ⟨c5, hc5, hcl5⟩ := Cond.classLink_spec hown (hts _ h6) pl hpl
      obtain ⟨a8, b8, g1, g2, g3⟩ := hS.2.2.2.2.2.2.2.2.2.2.2
      cases Option.some.inj (g1.symm.trans hcl)
      cases Option.some.inj (g2.symm.trans hc5)
      exact ⟨_, hcl5, Or.inr ⟨g3, ih h7⟩⟩
section JW
variable {g : jg} {y : jm} {hh : List (Nat × Nat × Nat × Nat)} {pc : Nat} {lv : List (Nat × jv)} {st : List jv} {h : jh} {k n : Nat} {Q : jq}
theorem jw_iconst {c0 : Int} {v : Int32} (hd : decode y.2.1 pc = .ok (.iconst c0, 1)) (hv : Int32.ofInt c0 = v) (K : jGW g y hh (pc + 1) lv (.inl v :: st) h k n Q) : jGW g y hh pc lv st h k n Q := by
  intro p e s m args below meth c H locs cells slots mc ms ls C hH hS hc hs hL
  exact lv_iconst C.1 C.2.1 hd hv (K p e s m args below meth c H locs cells slots mc ms ls C hH hS hc hs hL)
theorem jw_lconst {c0 : Fin 2} {v : Int64} (hd : decode y.2.1 pc = .ok (.lconst c0, 1)) (hv : Int64.ofNat (c0 : Nat) = v) (K : jGW g y hh (pc + 1) lv (.inr (.inl v) :: st) h k n Q) : jGW g y hh pc lv st h k n Q := by
  intro p e s m args below meth c H locs cells slots mc ms ls C hH hS hc hs hL
  exact lv_lconst C.1 C.2.1 hd hv (K p e s m args below meth c H locs cells slots mc ms ls C hH hS hc hs hL)
theorem jw_iload_n {i : Fin 4} {j : Nat} {x : Int32} (hd : decode y.2.1 pc = .ok (.iload_n i, 1)) (hi : (i : Nat) = j) (hv : (j, .inl x) ∈ lv) (K : jGW g y hh (pc + 1) lv (.inl x :: st) h k n Q) : jGW g y hh pc lv st h k n Q := by
  intro p e s m args below meth c H locs cells slots mc ms ls C hH hS hc hs hL
  exact lv_iload_n C.1 C.2.1 hd hi (jlv_at hL hv) (K p e s m args below meth c H locs cells slots mc ms ls C hH hS hc hs hL)
theorem jw_iload {j : Nat} {x : Int32} (hd : decode y.2.1 pc = .ok (.iload j, 2)) (hv : (j, .inl x) ∈ lv) (K : jGW g y hh (pc + 2) lv (.inl x :: st) h k n Q) : jGW g y hh pc lv st h k n Q := by
  intro p e s m args below meth c H locs cells slots mc ms ls C hH hS hc hs hL
  exact lv_iload C.1 C.2.1 hd (jlv_at hL hv) (K p e s m args below meth c H locs cells slots mc ms ls C hH hS hc hs hL)
theorem jw_aload_n {i : Fin 4} {j : Nat} {o : Option Nat} (hd : decode y.2.1 pc = .ok (.aload_n i, 1)) (hi : (i : Nat) = j) (hv : (j, .inr (.inr o)) ∈ lv) (K : jGW g y hh (pc + 1) lv (.inr (.inr o) :: st) h k n Q) : jGW g y hh pc lv st h k n Q := by
  intro p e s m args below meth c H locs cells slots mc ms ls C hH hS hc hs hL
  have k1 := K p e s m args below meth c H locs cells slots mc ms ls C hH hS hc hs hL
  have k2 := jlv_at hL hv
  cases o with
  | none => exact lv_aload_nN C.1 C.2.1 hd hi k2 k1
  | some a => exact lv_aload_n C.1 C.2.1 hd hi k2 k1
theorem jw_aload {j : Nat} {o : Option Nat} (hd : decode y.2.1 pc = .ok (.aload j, 2)) (hv : (j, .inr (.inr o)) ∈ lv) (K : jGW g y hh (pc + 2) lv (.inr (.inr o) :: st) h k n Q) : jGW g y hh pc lv st h k n Q := by
  intro p e s m args below meth c H locs cells slots mc ms ls C hH hS hc hs hL
  have k1 := K p e s m args below meth c H locs cells slots mc ms ls C hH hS hc hs hL
  have k2 := jlv_at hL hv
  cases o with
  | none => exact lv_aloadN C.1 C.2.1 hd k2 k1
  | some a => exact lv_aload C.1 C.2.1 hd k2 k1
theorem jw_astore_n {i : Fin 4} {j : Nat} {o : Option Nat} {lv' : List (Nat × jv)} (hd : decode y.2.1 pc = .ok (.astore_n i, 1)) (hi : (i : Nat) = j) (hn : j < y.2.2.1) (hl : (j, .inr (.inr o)) :: jst1 lv j = lv') (K : jGW g y hh (pc + 1) lv' st h k n Q) : jGW g y hh pc lv (.inr (.inr o) :: st) h k n Q := by
  intro p e s m args below meth c H locs cells slots mc ms ls C hH hS hc hs hL
  subst hl
  cases o with
  | none => exact lv_astore_nN (lv' := jlv ((j, .inr (.inr none)) :: jst1 lv j)) C.1 C.2.1 hd hi hL hn (by rw [jst1_lv]; rfl) (fun ls hl => K p e s m args below meth c H locs cells slots mc ms ls C hH hS hc hs hl)
  | some a => exact lv_astore_n (lv' := jlv ((j, .inr (.inr (some a))) :: jst1 lv j)) C.1 C.2.1 hd hi hL hn (by rw [jst1_lv]; rfl) (fun ls hl => K p e s m args below meth c H locs cells slots mc ms ls C hH hS hc hs hl)
theorem jw_astore {j : Nat} {o : Option Nat} {lv' : List (Nat × jv)} (hd : decode y.2.1 pc = .ok (.astore j, 2)) (hn : j < y.2.2.1) (hl : (j, .inr (.inr o)) :: jst1 lv j = lv') (K : jGW g y hh (pc + 2) lv' st h k n Q) : jGW g y hh pc lv (.inr (.inr o) :: st) h k n Q := by
  intro p e s m args below meth c H locs cells slots mc ms ls C hH hS hc hs hL
  subst hl
  cases o with
  | none => exact lv_astoreN (lv' := jlv ((j, .inr (.inr none)) :: jst1 lv j)) C.1 C.2.1 hd hL hn (by rw [jst1_lv]; rfl) (fun ls hl => K p e s m args below meth c H locs cells slots mc ms ls C hH hS hc hs hl)
  | some a => exact lv_astore (lv' := jlv ((j, .inr (.inr (some a))) :: jst1 lv j)) C.1 C.2.1 hd hL hn (by rw [jst1_lv]; rfl) (fun ls hl => K p e s m args below meth c H locs cells slots mc ms ls C hH hS hc hs hl)
theorem jw_i2l {a : Int32} (hd : decode y.2.1 pc = .ok (.i2l, 1)) (K : jGW g y hh (pc + 1) lv (.inr (.inl a.toInt64) :: st) h k n Q) : jGW g y hh pc lv (.inl a :: st) h k n Q := by
  intro p e s m args below meth c H locs cells slots mc ms ls C hH hS hc hs hL
  exact lv_i2l C.1 C.2.1 hd rfl (K p e s m args below meth c H locs cells slots mc ms ls C hH hS hc hs hL)
theorem jw_if_eq {x : Int32} {off : Int} {tgt : Nat} (hd : decode y.2.1 pc = .ok (.ifCond .eq off, 3)) (ht : (pc : Int) + off = (tgt : Int)) (K : x = 0 → jGW g y hh tgt lv st h k n Q) (L : ¬ x = 0 → jGW g y hh (pc + 3) lv st h k n Q) : jGW g y hh pc lv (.inl x :: st) h k n Q := by
  intro p e s m args below meth c H locs cells slots mc ms ls C hH hS hc hs hL
  exact lv_if_eq C.1 C.2.1 hd ht (fun q => (K q p e s m args below meth c H locs cells slots mc ms ls C hH hS hc hs hL)) (fun q => (L q p e s m args below meth c H locs cells slots mc ms ls C hH hS hc hs hL))
theorem jw_goto {off : Int} {tgt : Nat} (hd : decode y.2.1 pc = .ok (.goto off, 3)) (ht : (pc : Int) + off = (tgt : Int)) (K : jGW g y hh tgt lv st h k n Q) : jGW g y hh pc lv st h k n Q := by
  intro p e s m args below meth c H locs cells slots mc ms ls C hH hS hc hs hL
  exact lv_goto C.1 C.2.1 hd ht (K p e s m args below meth c H locs cells slots mc ms ls C hH hS hc hs hL)
theorem jw_last {o : Option Nat} {i : Int32} {x : Int64} (hd : decode y.2.1 pc = .ok (.lastore, 1)) (ho : ¬ o = none) (ht : jt h (jd o) = 22) (hi : vp_in i (jn h (jd o))) (K : jGW g y hh (pc + 1) lv st (jsL h (jd o) i.toNatClampNeg x) k n Q) : jGW g y hh pc lv (.inr (.inl x) :: .inl i :: .inr (.inr o) :: st) h k n Q := by
  intro p e s m args below meth c H locs cells slots mc ms ls C hH hS hc hs hL
  have ha := hH.2.2.2.2 (jd o) 2 ht (by decide)
  generalize hA : jd o = a at *
  have ho' : o = some a := by rw [← hA]; exact jd_some ho
  subst ho'
  have hba : jA g a := (hH.2.2.1 a (by omega)).1
  refine W.last C.1 C.2.1 ha ((C.2.2.2.2.2.2.2.2.2.1.1.2 2 _ (jtys_at g).2.2.1).1 _ _) (fun q => by cases q) (by rw [arrV_size]; exact hi) rfl rfl hd fun H1 e1 e2 e3 => ?_
  rw [arrV_store] at e1
  exact K p e s m args below meth c H1 _ cells slots mc ms ls C (hH.row rfl rfl rfl (fun _ _ _ => rfl) (fun _ _ hb => jrow_Lo hb) ht (by decide) (by rw [e1, jrow_L]) e2 e3) (hS.put e2 e3 hba) hc hs hL
theorem jw_iret {x : Int32} (hd : decode y.2.1 pc = .ok (.ireturn, 1)) (hr : y.2.2.2.1 = some .int) (hq : Q (.inl (some (.inl x))) h) : jGW g y hh pc lv [.inl x] h k n Q := by
  intro p e s m args below meth c H locs cells slots mc ms ls C hH hS hc hs hL
  refine vx_ret (W.widen (k := mc) (n := ms) (by omega) (by omega) ?_)
  exact W.iret (v := x) C.1 C.2.1 (C.2.2.1.trans hr) (fun t ht hW => ⟨⟨_, h, rfl, hq, by rw [ht]; exact hH⟩, hS.F ht⟩) hS.2.2 hd C.2.2.2.2.2.2.1
theorem jw_run {p : Program} {e : Env} {s : State} {m : MethodId} {args : Array Value} {below : List Frame} {meth : Method} {c : Code} {H : Heap} {locs : List Loc} {cells slots mc ms mcx msx : Nat} {ls : Array Slot} {a : Array Value} {rest : List jv} {st0 : List Value}
    (C : jCW g y hh p s m args meth c) (hS : va_S (jA g) s.heap H locs) (hc : cells + k ≤ mc) (hs : slots + n ≤ ms) (hL : lv_has ls y.2.2.1 (jlv lv)) (hk : mcx ≤ k) (hn : msx ≤ n)
    (hr : vx_Run p g.1 e (jrm y mc ms) s m args below meth c H locs cells slots mcx msx (F0 m pc ls st0) (rest.map jw) (jQ g (jk (fun v h' => jGW g y hh (pc + 3) lv (v.toList ++ rest) h' (k - mcx) (n - msx) Q) (fun x h' => ∃ hp, jxR y.1.cls pc x hp hh ∧ ∀ q, jGW g y hh hp lv [.inr (.inr (some q))] h' (k - mcx) (n - msx) Q)) a) (jX g (jk (fun v h' => jGW g y hh (pc + 3) lv (v.toList ++ rest) h' (k - mcx) (n - msx) Q) (fun x h' => ∃ hp, jxR y.1.cls pc x hp hh ∧ ∀ q, jGW g y hh hp lv [.inr (.inr (some q))] h' (k - mcx) (n - msx) Q))) (jA g)) :
    W p g.1 e (jrm y mc ms) s m args below meth c H locs cells slots (vx_MQ below (jQ g Q) (jX g Q) args s mc ms (jA g)) (F0 m pc ls st0) := by
  intro T hT X
  rcases hr T hT X with ⟨v, st₀, t, T', L, h0, X', hLf, e1, e2, ⟨⟨r, h', hv, hQ, hH'⟩, hF⟩, go⟩ | ⟨q, st₀, t, T', L, E, ce, h0, X', hLf, e1, e2, ⟨⟨x, h', hE, hQ, hH'⟩, hF⟩, hce, hcv, hcl, go⟩
  · obtain ⟨k1, k2, k3⟩ := vx_keep h0 e1 hS (fun _ _ z => z) (fun _ z => z) hLf hF
    have hv' : v = r.map jw := by cases hv; rfl
    subst hv'
    have hG : jGW g y hh (pc + 3) lv (r.toList ++ rest) h' (k - mcx) (n - msx) Q := hQ
    obtain ⟨t2, a1, b1⟩ := hG p e s m args below meth c T'.heap (locs ++ L) (cells + mcx) (slots + msx) mc ms ls C (by rw [e1]; exact hH') k3 (by omega) (by omega) hL T' rfl X'
    refine ⟨t2, go t2 ?_, b1⟩
    have : (r.map jw).toList ++ rest.map jw = (r.toList ++ rest).map jw := by cases r <;> simp
    show Steps p.tables e below (T'.setTop { method := m, pc := pc + 3, locals := ls, stack := (r.map jw).toList ++ rest.map jw, locked := none }) t2
    rw [this]
    exact a1
  · obtain ⟨k1, k2, k3⟩ := vx_keep h0 e1 hS (fun _ _ z => z) (fun _ z => z) hLf hF
    obtain ⟨hp, hR, hG⟩ : ∃ hp, jxR y.1.cls pc x hp hh ∧ ∀ q, jGW g y hh hp lv [.inr (.inr (some q))] h' (k - mcx) (n - msx) Q := hQ
    subst hE
    have hpl : e.platform.magicAccessors = ({} : Platform).magicAccessors := by rw [X.admits.platform]
    have hxF := jxR.F (g := g) (args := args) hpl C.2.2.2.2.1 C.2.2.2.2.2.1 C.2.2.2.2.2.2.2.2.2.1 hcl hh hR
    rw [← C.2.2.2.2.2.2.2.2.1] at hxF
    obtain ⟨vm', X2, st⟩ := jx_caught X' (a := q) (g := F0 m pc ls (rest.map jw)) rfl (by rw [e1]; exact hce) (by rw [hcv]; rfl) (by obtain ⟨k9, h9, -⟩ := Vm.findClass_spec hcl; exact ⟨k9, h9⟩) hxF
    obtain ⟨t2, a1, b1⟩ := hG q p e s m args below meth c T'.heap (locs ++ L) (cells + mcx) (slots + msx) mc ms ls C (by rw [e1]; exact hH') k3 (by omega) (by omega) hL (T'.setVm vm') rfl X2
    exact ⟨t2, go.trans (st _ a1), b1⟩
theorem jw_callV (x : jm) (as rest : List jv) {b index ci mcx msx : Nat} (hd : decode y.2.1 pc = .ok (.invokevirtual index, 3)) (hst : st = as.reverse ++ .inr (.inr (some b)) :: rest) (hl : jcv y.1.cls index x as.length ci) (hR : jrr y x rest) (hb : jt h b = ci + 1) (hk : mcx ≤ k) (hn : msx ≤ n)
    (hM : jM g x (.inr (.inr (some b)) :: as) h mcx msx (jk (fun v h' => jGW g y hh (pc + 3) lv (v.toList ++ rest) h' (k - mcx) (n - msx) Q) (fun x h' => ∃ hp, jxR y.1.cls pc x hp hh ∧ ∀ q, jGW g y hh hp lv [.inr (.inr (some q))] h' (k - mcx) (n - msx) Q))) : jGW g y hh pc lv st h k n Q := by
  subst hst
  intro p e s m args below meth c H locs cells slots mc ms ls C hH hS hc hs hL
  obtain ⟨⟨h1, h2, h3, h4⟩, h5, h6, q, h7, h8⟩ := hl
  have hts := C.2.2.2.2.2.1
  have hcb := callB_of (R := jrm y mc ms) (own := y.1.cls) (index := index) (rm := jrm x mcx msx) (mc := mcx) (ms := msx) (ret := x.2.2.2.1) as.length hts (jtb_good h3) rfl rfl rfl (hts _ h2) (hts _ h1) h4 hR.1
  obtain ⟨cell, q1, q2, q3, q4⟩ := hH.2.2.2.1 b ci hb (jcl_lt h7)
  have hr := vx_runV (g := F0 m pc ls ((as.reverse ++ .inr (.inr (some b)) :: rest).map jw)) (rest := rest.map jw) (As := as.map jw) (b := b) (C := x.1.cls) (locs := locs) (cells := cells) (slots := slots) (below := below) (e := e) (H := H) (meth := meth) (nL := y.2.2.1) (Ts := jtb) ⟨C.1, C.2.1, C.2.2.2.1, C.2.2.2.2.1, hts⟩ hM ⟨hcb, hts _ h5, hts _ h6⟩
    ⟨jP.blind g _ h, ⟨cell, q1, by rw [q3]; rfl, by rw [q2, ← h8]; exact (C.2.2.2.2.2.2.2.2.2.1.1.1 ci q h7).2.1⟩, fun U hU hW => jP.now hH C.2.2.2.2.2.2.2.2.2.1 hS C.2.2.2.2.2.2.2.2.2.2.2 hU hW⟩
    rfl (by simp) hL.1 (by simp [jw, va_rf]) (lv_room hR.2) hd ⟨(by show cells + mcx ≤ mc; omega), (by show slots + msx ≤ ms; omega)⟩
  exact jw_run C hS hc hs hL hk hn hr
end JW
/-- the links of a static call of a method with a table -/
def jcw (own : String) (index : Nat) (x : jm) (hh : List (Nat × Nat × Nat × Nat)) (n : Nat) : Prop := Cond.methodLink own index x.1 ∈ jtb ∧ Cond.initialized x.1.cls ∈ jtb ∧ Cond.codeWith x.1 x.2.1 x.2.2.1 x.2.2.2.1 hh ∈ jtb ∧ (x.1.cls ≠ "java/lang/invoke/MethodHandle" ∧ x.1.cls ≠ "java/lang/invoke/VarHandle" ∧ (parseMethodDescriptor x.1.desc).map (fun d => d.parameters.length) = some n) ∧ Cond.static x.1 ∈ jtb
theorem jg_callSW {g : jg} {y : jm} {pc : Nat} {lv : List (Nat × jv)} {st : List jv} {h : jh} {k n : Nat} {Q : jq} (x : jm) (hh : List (Nat × Nat × Nat × Nat)) (as rest : List jv) {index mcx msx : Nat} (hd : decode y.2.1 pc = .ok (.invokestatic index, 3)) (hst : st = as.reverse ++ rest) (hl : jcw y.1.cls index x hh as.length) (hR : jrr y x rest) (hk : mcx ≤ k) (hn : msx ≤ n)
    (hM : jMW g x hh as h mcx msx (jk (fun v h' => jG g y (pc + 3) lv (v.toList ++ rest) h' (k - mcx) (n - msx) Q) (fun e h' => Q (.inr e) h'))) : jG g y pc lv st h k n Q := by
  subst hst
  intro p e s m args below meth c H locs cells slots mc ms ls C hH hS hc hs hL
  obtain ⟨h1, h2, h3, h4, h5⟩ := hl
  have hts := C.2.2.2.2.2.1
  have hgood : GoodIn jtb (va_wsS y.1.cls index x.1 (jwsW x hh)) := by
    intro w hw
    have hm : w ∈ jtb := by
      simp only [va_wsS, jwsW, List.mem_append, List.mem_cons, List.not_mem_nil, or_false] at hw
      rcases hw with (rfl | rfl | rfl) | rfl | hw <;> assumption
    exact ⟨hm, good_of_word (List.mem_filter.mp hm).2⟩
  have hcb := vx_cwSW (R := jrm y mc ms) (own := y.1.cls) (index := index) (rm := jrm x mcx msx) (mc := mcx) (ms := msx) (hh := hh) (bytes := x.2.1) (maxL := x.2.2.1) (ret := x.2.2.2.1) as.length hts hgood rfl rfl rfl h4 hR.1
  have hr := vx_runSX (g := F0 m pc ls ((as.reverse ++ rest).map jw)) (rest := rest.map jw) (As := as.map jw) (locs := locs) (cells := cells) (slots := slots) (below := below) (e := e) (H := H) (meth := meth) (nL := y.2.2.1) (Ts := jtb) ⟨C.1, C.2.1, C.2.2.2.1, C.2.2.2.2.1, hts⟩ hM hcb
    ⟨jP.blind g _ h, fun U hU hW => jP.now hH C.2.2.2.2.2.2.2.2.2.1 hS C.2.2.2.2.2.2.2.2.2.2.2 hU hW⟩
    rfl (by simp) hL.1 (by simp) (lv_room hR.2) hd ⟨(by show cells + mcx ≤ mc; omega), (by show slots + msx ≤ ms; omega)⟩
  exact jg_run C hS hc hs hL hk hn hr
