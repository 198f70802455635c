/-! rows of jG: calls, throws -/
def jki (K : Int32 → jh → Prop) (X : Nat → jh → Prop) : jq := fun r h => match r with
  | .inl (some (.inl x)) => K x h
  | .inl _ => False
  | .inr e => X e h
def jkl (K : Int64 → jh → Prop) (X : Nat → jh → Prop) : jq := fun r h => match r with
  | .inl (some (.inr (.inl x))) => K x h
  | .inl _ => False
  | .inr e => X e h
def jkr (K : Option Nat → jh → Prop) (X : Nat → jh → Prop) : jq := fun r h => match r with
  | .inl (some (.inr (.inr x))) => K x h
  | .inl _ => False
  | .inr e => X e h
def jkv (K : jh → Prop) (X : Nat → jh → Prop) : jq := fun r h => match r with
  | .inl none => K h
  | .inl _ => False
  | .inr e => X e h
def jk (K : Option jv → jh → Prop) (X : Nat → jh → Prop) : jq := fun r h => match r with
  | .inl v => K v h
  | .inr e => X e h
theorem jM.mono {g : jg} {y : jm} {as : List jv} {h : jh} {mc ms : Nat} {Q Q' : jq} (hQ : ∀ r h, Q r h → Q' r h) (hM : jM g y as h mc ms Q) : jM g y as h mc ms Q' := by
  refine MetFree.mono hM (fun _ _ z => z) (fun _ _ _ _ _ z => z) ?_
  intro a s o s' _ hq
  rcases hq with ⟨⟨⟨r, h', q1, q2, q3⟩, q4⟩, q5⟩ | ⟨q, q0, E, ce, L, ⟨⟨x, h', q1, q2, q3⟩, q4⟩, q5⟩
  · exact Or.inl ⟨⟨⟨r, h', q1, hQ _ _ q2, q3⟩, q4⟩, q5⟩
  · exact Or.inr ⟨q, q0, E, ce, L, ⟨⟨x, h', q1, hQ _ _ q2, q3⟩, q4⟩, q5⟩
theorem jki_mono {K K' : Int32 → jh → Prop} {X X' : Nat → jh → Prop} (hK : ∀ x h, K x h → K' x h) (hX : ∀ e h, X e h → X' e h) : ∀ r h, jki K X r h → jki K' X' r h := by
  intro r h
  match r with
  | .inl (some (.inl x)) => exact hK x h
  | .inl none => exact fun z => z
  | .inl (some (.inr x)) => exact fun z => z
  | .inr e => exact hX e h
theorem jkl_mono {K K' : Int64 → jh → Prop} {X X' : Nat → jh → Prop} (hK : ∀ x h, K x h → K' x h) (hX : ∀ e h, X e h → X' e h) : ∀ r h, jkl K X r h → jkl K' X' r h := by
  intro r h
  match r with
  | .inl (some (.inr (.inl x))) => exact hK x h
  | .inl none => exact fun z => z
  | .inl (some (.inl x)) => exact fun z => z
  | .inl (some (.inr (.inr x))) => exact fun z => z
  | .inr e => exact hX e h
theorem jkr_mono {K K' : Option Nat → jh → Prop} {X X' : Nat → jh → Prop} (hK : ∀ x h, K x h → K' x h) (hX : ∀ e h, X e h → X' e h) : ∀ r h, jkr K X r h → jkr K' X' r h := by
  intro r h
  match r with
  | .inl (some (.inr (.inr x))) => exact hK x h
  | .inl none => exact fun z => z
  | .inl (some (.inl x)) => exact fun z => z
  | .inl (some (.inr (.inl x))) => exact fun z => z
  | .inr e => exact hX e h
theorem jkv_mono {K K' : jh → Prop} {X X' : Nat → jh → Prop} (hK : ∀ h, K h → K' h) (hX : ∀ e h, X e h → X' e h) : ∀ r h, jkv K X r h → jkv K' X' r h := by
  intro r h
  match r with
  | .inl none => exact hK h
  | .inl (some x) => exact fun z => z
  | .inr e => exact hX e h
theorem jki_k {K : Int32 → jh → Prop} {K' : Option jv → jh → Prop} {X : Nat → jh → Prop} (hK : ∀ x h, K x h → K' (some (.inl x)) h) : ∀ r h, jki K X r h → jk K' X r h := by
  intro r h
  match r with
  | .inl (some (.inl x)) => exact hK x h
  | .inl none => exact fun z => z.elim
  | .inl (some (.inr x)) => exact fun z => z.elim
  | .inr e => exact fun z => z
theorem jkl_k {K : Int64 → jh → Prop} {K' : Option jv → jh → Prop} {X : Nat → jh → Prop} (hK : ∀ x h, K x h → K' (some (.inr (.inl x))) h) : ∀ r h, jkl K X r h → jk K' X r h := by
  intro r h
  match r with
  | .inl (some (.inr (.inl x))) => exact hK x h
  | .inl none => exact fun z => z.elim
  | .inl (some (.inl x)) => exact fun z => z.elim
  | .inl (some (.inr (.inr x))) => exact fun z => z.elim
  | .inr e => exact fun z => z
theorem jkr_k {K : Option Nat → jh → Prop} {K' : Option jv → jh → Prop} {X : Nat → jh → Prop} (hK : ∀ x h, K x h → K' (some (.inr (.inr x))) h) : ∀ r h, jkr K X r h → jk K' X r h := by
  intro r h
  match r with
  | .inl (some (.inr (.inr x))) => exact hK x h
  | .inl none => exact fun z => z.elim
  | .inl (some (.inl x)) => exact fun z => z.elim
  | .inl (some (.inr (.inl x))) => exact fun z => z.elim
  | .inr e => exact fun z => z
theorem jkv_k {K : jh → Prop} {K' : Option jv → jh → Prop} {X : Nat → jh → Prop} (hK : ∀ h, K h → K' none h) : ∀ r h, jkv K X r h → jk K' X r h := by
  intro r h
  match r with
  | .inl none => exact hK h
  | .inl (some x) => exact fun z => z.elim
  | .inr e => exact fun z => z
/-- a call's links: virtual (of class ci), static, a constructor -/
def jcc (own : String) (index : Nat) (x : jm) (n : Nat) : Prop := Cond.methodLink own index x.1 ∈ jtb ∧ Cond.initialized x.1.cls ∈ jtb ∧ Cond.code x.1 x.2.1 x.2.2.1 x.2.2.2.1 ∈ jtb ∧ (x.1.cls ≠ "java/lang/invoke/MethodHandle" ∧ x.1.cls ≠ "java/lang/invoke/VarHandle" ∧ (parseMethodDescriptor x.1.desc).map (fun d => d.parameters.length) = some n)
def jcv (own : String) (index : Nat) (x : jm) (n ci : Nat) : Prop := jcc own index x n ∧ Cond.instanceMethod x.1 ∈ jtb ∧ Cond.selects x.1.cls x.1 x.1 ∈ jtb ∧ ∃ q, jcl[ci]? = some q ∧ q.1 = x.1.cls
def jcs (own : String) (index : Nat) (x : jm) (n : Nat) : Prop := jcc own index x n ∧ Cond.static x.1 ∈ jtb
def jci (own : String) (index : Nat) (x : jm) (n : Nat) : Prop := jcc own index x n ∧ Cond.instanceMethod x.1 ∈ jtb ∧ x.1.name = "<init>" ∧ x.2.2.2.1 = none
def jcn (own : String) (index : Nat) (x : jm) (n : Nat) : Prop := (∃ host, (own, index, x.1, host) ∈ jnst) ∧ Cond.initialized x.1.cls ∈ jtb ∧ Cond.code x.1 x.2.1 x.2.2.1 x.2.2.2.1 ∈ jtb ∧ (x.1.cls ≠ "java/lang/invoke/MethodHandle" ∧ x.1.cls ≠ "java/lang/invoke/VarHandle" ∧ (parseMethodDescriptor x.1.desc).map (fun d => d.parameters.length) = some n) ∧ Cond.instanceMethod x.1 ∈ jtb ∧ x.1.name = "<init>" ∧ x.2.2.2.1 = none
/-- the callee's room in the caller's -/
def jrr (y x : jm) (rest : List jv) : Prop := (x.2.2.2.2.1 + 1 ≤ y.2.2.2.2.1 ∧ 8 + (x.2.2.1 + 11) + x.2.2.2.2.2 ≤ y.2.2.2.2.2) ∧ ((rest.map jw).map fun v => v.category).sum ≤ 8
section JCa
variable {g : jg} {y : jm} {pc : Nat} {lv : List (Nat × jv)} {st : List jv} {h : jh} {k n : Nat} {Q : jq}
theorem jg_run {p : Program} {e : Env} {s : State} {m : MethodId} {args : Array Value} {below : List Frame} {meth : Method} {c : Code} {H : Heap} {locs : List Loc} {cells slots mc ms mcx msx : Nat} {ls : Array Slot} {a : Array Value} {rest : List jv} {st0 : List Value}
    (C : jC g y p s m args meth c) (hS : va_S (jA g) s.heap H locs) (hc : cells + k ≤ mc) (hs : slots + n ≤ ms) (hL : lv_has ls y.2.2.1 (jlv lv)) (hk : mcx ≤ k) (hn : msx ≤ n)
    (hr : vx_Run p g.1 e (jrm y mc ms) s m args below meth c H locs cells slots mcx msx (F0 m pc ls st0) (rest.map jw) (jQ g (jk (fun v h' => jG g y (pc + 3) lv (v.toList ++ rest) h' (k - mcx) (n - msx) Q) (fun e h' => Q (.inr e) h')) a) (jX g (jk (fun v h' => jG g y (pc + 3) lv (v.toList ++ rest) h' (k - mcx) (n - msx) Q) (fun e h' => Q (.inr e) h'))) (jA g)) :
    W p g.1 e (jrm y mc ms) s m args below meth c H locs cells slots (vx_MQ below (jQ g Q) (jX g Q) args s mc ms (jA g)) (F0 m pc ls st0) := by
  intro T hT X
  rcases hr T hT X with ⟨v, st₀, t, T', L, h0, X', hLf, e1, e2, ⟨⟨r, h', hv, hQ, hH'⟩, hF⟩, go⟩ | ⟨q, st₀, t, T', L, E, ce, h0, X', hLf, e1, e2, ⟨⟨x, h', hE, hQ, hH'⟩, hF⟩, hce, hcv, hcl, go⟩
  · obtain ⟨k1, k2, k3⟩ := vx_keep h0 e1 hS (fun _ _ z => z) (fun _ z => z) hLf hF
    have hv' : v = r.map jw := by cases hv; rfl
    subst hv'
    have hG : jG g y (pc + 3) lv (r.toList ++ rest) h' (k - mcx) (n - msx) Q := hQ
    obtain ⟨t2, a1, b1⟩ := hG p e s m args below meth c T'.heap (locs ++ L) (cells + mcx) (slots + msx) mc ms ls C (by rw [e1]; exact hH') k3 (by omega) (by omega) hL T' rfl X'
    refine ⟨t2, go t2 ?_, b1⟩
    have : (r.map jw).toList ++ rest.map jw = (r.toList ++ rest).map jw := by cases r <;> simp
    show Steps p.tables e below (T'.setTop { method := m, pc := pc + 3, locals := ls, stack := (r.map jw).toList ++ rest.map jw, locked := none }) t2
    rw [this]
    exact a1
  · obtain ⟨k1, k2, k3⟩ := vx_keep h0 e1 hS (fun _ _ z => z) (fun _ z => z) hLf hF
    have hQx : Q (.inr x) h' := hQ
    have hout : vx_W p g.1 e (jrm y mc ms) s m args below meth c T'.heap (locs ++ L) (cells + mcx) (slots + msx) (vx_MQ below (jQ g Q) (jX g Q) args s mc ms (jA g)) (F0 m pc ls (rest.map jw)) q :=
      vx_out (fun x hx => (C.2.2.2.2.2.2.2.2.1 x hx).elim) C.2.2.2.2.2.2.1 (by rw [e1]; exact hce) hcv hcl (fun t9 ht9 _ => ⟨⟨x, h', hE, hQx, by rw [ht9, e1]; exact hH'⟩, k3.F ht9⟩) k3.2.2 (by omega) (by omega)
    obtain ⟨t2, a1, b1⟩ := hout T' rfl X'
    exact ⟨t2, go.trans a1, b1⟩
theorem jP.now {s U : State} {H : Heap} {locs : List Loc} {as : List jv} (hH : jH g h H) (hJ : jS g s) (hS : va_S (jA g) s.heap H locs) (hb : jgb g ≤ s.heap.size) (hU : U.heap = H) (hW : s.WarmedH U.vm) : jP g as h (as.map jw).toArray U :=
  ⟨rfl, by rw [hU]; exact hH, hJ.warm hW (fun a h1 h2 => by rw [hU]; exact hS.2.1 a h1 h2) hb⟩
theorem jg_callV (x : jm) (as rest : List jv) {b index ci mcx msx : Nat} (hd : decode y.2.1 pc = .ok (.invokevirtual index, 3)) (hst : st = as.reverse ++ .inr (.inr (some b)) :: rest) (hl : jcv y.1.cls index x as.length ci) (hR : jrr y x rest) (hb : jt h b = ci + 1) (hk : mcx ≤ k) (hn : msx ≤ n)
    (hM : jM g x (.inr (.inr (some b)) :: as) h mcx msx (jk (fun v h' => jG g y (pc + 3) lv (v.toList ++ rest) h' (k - mcx) (n - msx) Q) (fun e h' => Q (.inr e) h'))) : jG g y pc lv st h k n Q := by
  subst hst
  intro p e s m args below meth c H locs cells slots mc ms ls C hH hS hc hs hL
  obtain ⟨⟨h1, h2, h3, h4⟩, h5, h6, q, h7, h8⟩ := hl
  have hts := C.2.2.2.2.2.1
  have hcb := callB_of (R := jrm y mc ms) (own := y.1.cls) (index := index) (rm := jrm x mcx msx) (mc := mcx) (ms := msx) (ret := x.2.2.2.1) as.length hts (jtb_good h3) rfl rfl rfl (hts _ h2) (hts _ h1) h4 hR.1
  obtain ⟨cell, q1, q2, q3, q4⟩ := hH.2.2.2.1 b ci hb (jcl_lt h7)
  have hr := vx_runV (g := F0 m pc ls ((as.reverse ++ .inr (.inr (some b)) :: rest).map jw)) (rest := rest.map jw) (As := as.map jw) (b := b) (C := x.1.cls) (locs := locs) (cells := cells) (slots := slots) (below := below) (e := e) (H := H) (meth := meth) (nL := y.2.2.1) (Ts := jtb) ⟨C.1, C.2.1, C.2.2.2.1, C.2.2.2.2.1, hts⟩ hM ⟨hcb, hts _ h5, hts _ h6⟩
    ⟨jP.blind g _ h, ⟨cell, q1, by rw [q3]; rfl, by rw [q2, ← h8]; exact (C.2.2.2.2.2.2.2.2.2.1.1.1 ci q h7).2.1⟩, fun U hU hW => jP.now hH C.2.2.2.2.2.2.2.2.2.1 hS C.2.2.2.2.2.2.2.2.2.2.2 hU hW⟩
    rfl (by simp) hL.1 (by simp [jw, va_rf]) (lv_room hR.2) hd ⟨(by show cells + mcx ≤ mc; omega), (by show slots + msx ≤ ms; omega)⟩
  exact jg_run C hS hc hs hL hk hn hr
theorem jg_callS (x : jm) (as rest : List jv) {index mcx msx : Nat} (hd : decode y.2.1 pc = .ok (.invokestatic index, 3)) (hst : st = as.reverse ++ rest) (hl : jcs y.1.cls index x as.length) (hR : jrr y x rest) (hk : mcx ≤ k) (hn : msx ≤ n)
    (hM : jM g x as h mcx msx (jk (fun v h' => jG g y (pc + 3) lv (v.toList ++ rest) h' (k - mcx) (n - msx) Q) (fun e h' => Q (.inr e) h'))) : jG g y pc lv st h k n Q := by
  subst hst
  intro p e s m args below meth c H locs cells slots mc ms ls C hH hS hc hs hL
  obtain ⟨⟨h1, h2, h3, h4⟩, h5⟩ := hl
  have hts := C.2.2.2.2.2.1
  have hcb := callB_of (R := jrm y mc ms) (own := y.1.cls) (index := index) (rm := jrm x mcx msx) (mc := mcx) (ms := msx) (ret := x.2.2.2.1) as.length hts (jtb_good h3) rfl rfl rfl (hts _ h2) (hts _ h1) h4 hR.1
  have hr := vx_runS (g := F0 m pc ls ((as.reverse ++ rest).map jw)) (rest := rest.map jw) (As := as.map jw) (locs := locs) (cells := cells) (slots := slots) (below := below) (e := e) (H := H) (meth := meth) (nL := y.2.2.1) (Ts := jtb) ⟨C.1, C.2.1, C.2.2.2.1, C.2.2.2.2.1, hts⟩ hM ⟨hcb, hts _ h5⟩
    ⟨jP.blind g _ h, fun U hU hW => jP.now hH C.2.2.2.2.2.2.2.2.2.1 hS C.2.2.2.2.2.2.2.2.2.2.2 hU hW⟩
    rfl (by simp) hL.1 (by simp) (lv_room hR.2) hd ⟨(by show cells + mcx ≤ mc; omega), (by show slots + msx ≤ ms; omega)⟩
  exact jg_run C hS hc hs hL hk hn hr
/-- a contract that throws nothing, as the kit's Met -/
theorem jM.met {x : jm} {as : List jv} {mc ms : Nat} {K : Option jv → jh → Prop} (hM : jM g x as h mc ms (jk K (fun _ _ => False))) : Met g.1 x.1 (jws x) (jrm x mc ms) (jP g as h) (jQ g (jk K (fun _ _ => False))) mc ms (jA g) := by
  refine MetFree.mono hM (fun _ _ z => z) (fun _ _ _ _ _ z => z) ?_
  intro a s o s' _ hq
  rcases hq with hq | ⟨q, q0, E, ce, L, ⟨⟨x, h', q1, q2, q3⟩, q4⟩, q5⟩
  · exact hq
  · exact q2.elim
theorem jg_runM {p : Program} {e : Env} {s : State} {m : MethodId} {args : Array Value} {below : List Frame} {meth : Method} {c : Code} {H : Heap} {locs : List Loc} {cells slots mc ms mcx msx : Nat} {ls : Array Slot} {a : Array Value} {rest : List jv} {st0 : List Value}
    (C : jC g y p s m args meth c) (hS : va_S (jA g) s.heap H locs) (hc : cells + k ≤ mc) (hs : slots + n ≤ ms) (hL : lv_has ls y.2.2.1 (jlv lv)) (hk : mcx ≤ k) (hn : msx ≤ n)
    (hr : va_Run p g.1 e (jrm y mc ms) s m args below meth c H locs cells slots mcx msx (F0 m pc ls st0) (rest.map jw) (jQ g (jk (fun v h' => jG g y (pc + 3) lv (v.toList ++ rest) h' (k - mcx) (n - msx) Q) (fun _ _ => False)) a) (jA g)) :
    W p g.1 e (jrm y mc ms) s m args below meth c H locs cells slots (vx_MQ below (jQ g Q) (jX g Q) args s mc ms (jA g)) (F0 m pc ls st0) := by
  intro T hT X
  obtain ⟨v, st₀, t, T', L, h0, X', hLf, e1, e2, ⟨⟨r, h', hv, hQ, hH'⟩, hF⟩, go⟩ := hr T hT X
  obtain ⟨k1, k2, k3⟩ := vx_keep h0 e1 hS (fun _ _ z => z) (fun _ z => z) hLf hF
  have hv' : v = r.map jw := by cases hv; rfl
  subst hv'
  have hG : jG g y (pc + 3) lv (r.toList ++ rest) h' (k - mcx) (n - msx) Q := hQ
  obtain ⟨t2, a1, b1⟩ := hG p e s m args below meth c T'.heap (locs ++ L) (cells + mcx) (slots + msx) mc ms ls C (by rw [e1]; exact hH') k3 (by omega) (by omega) hL T' rfl X'
  refine ⟨t2, go t2 ?_, b1⟩
  have : (r.map jw).toList ++ rest.map jw = (r.toList ++ rest).map jw := by cases r <;> simp
  show Steps p.tables e below (T'.setTop { method := m, pc := pc + 3, locals := ls, stack := (r.map jw).toList ++ rest.map jw, locked := none }) t2
  rw [this]
  exact a1
theorem jg_callI (x : jm) (as rest : List jv) {b index mcx msx : Nat} (hd : decode y.2.1 pc = .ok (.invokespecial index, 3)) (hst : st = as.reverse ++ .inr (.inr (some b)) :: rest) (hl : jci y.1.cls index x as.length) (hR : jrr y x rest) (hk : mcx ≤ k) (hn : msx ≤ n)
    (hM : jM g x (.inr (.inr (some b)) :: as) h mcx msx (jk (fun v h' => jG g y (pc + 3) lv (v.toList ++ rest) h' (k - mcx) (n - msx) Q) (fun _ _ => False))) : jG g y pc lv st h k n Q := by
  subst hst
  intro p e s m args below meth c H locs cells slots mc ms ls C hH hS hc hs hL
  obtain ⟨⟨h1, h2, h3, h4⟩, h5, h6, h7⟩ := hl
  have hts := C.2.2.2.2.2.1
  have hcb := callB_of (R := jrm y mc ms) (own := y.1.cls) (index := index) (rm := jrm x mcx msx) (mc := mcx) (ms := msx) (ret := x.2.2.2.1) as.length hts (jtb_good h3) rfl rfl rfl (hts _ h2) (hts _ h1) h4 hR.1
  rw [h7] at hcb
  have hr := va_runI (g := F0 m pc ls ((as.reverse ++ .inr (.inr (some b)) :: rest).map jw)) (rest := rest.map jw) (As := as.map jw) (b := b) (locs := locs) (cells := cells) (slots := slots) (below := below) (e := e) (H := H) (meth := meth) (nL := y.2.2.1) (Ts := jtb) ⟨C.1, C.2.1, C.2.2.2.1, C.2.2.2.2.1, hts⟩ hM.met ⟨hcb, h6, hts _ h5⟩
    ⟨jP.blind g _ h, fun U hU hW => jP.now hH C.2.2.2.2.2.2.2.2.2.1 hS C.2.2.2.2.2.2.2.2.2.2.2 hU hW⟩
    rfl (by simp) hL.1 (by simp [jw, va_rf]) (lv_room hR.2) hd ⟨(by show cells + mcx ≤ mc; omega), (by show slots + msx ≤ ms; omega)⟩
  exact jg_runM C hS hc hs hL hk hn hr
theorem jg_callN (x : jm) (as rest : List jv) {b index mcx msx : Nat} (hd : decode y.2.1 pc = .ok (.invokespecial index, 3)) (hst : st = as.reverse ++ .inr (.inr (some b)) :: rest) (hl : jcn y.1.cls index x as.length) (hR : jrr y x rest) (hk : mcx ≤ k) (hn : msx ≤ n)
    (hM : jM g x (.inr (.inr (some b)) :: as) h mcx msx (jk (fun v h' => jG g y (pc + 3) lv (v.toList ++ rest) h' (k - mcx) (n - msx) Q) (fun _ _ => False))) : jG g y pc lv st h k n Q := by
  subst hst
  intro p e s m args below meth c H locs cells slots mc ms ls C hH hS hc hs hL
  obtain ⟨⟨host, h1⟩, h2, h3, h4, h5, h6, h7⟩ := hl
  have hts := C.2.2.2.2.2.1
  have hcb := va_cnB (R := jrm y mc ms) (own := y.1.cls) (index := index) (rm := jrm x mcx msx) (mc := mcx) (ms := msx) (ret := x.2.2.2.1) as.length hts (jtb_good h3) rfl rfl rfl (C.2.2.2.2.2.2.2.2.2.1.2.2.2.2.1 _ h1) (hts _ h2) h4 hR.1
  rw [h7] at hcb
  have hr := va_runIN (g := F0 m pc ls ((as.reverse ++ .inr (.inr (some b)) :: rest).map jw)) (rest := rest.map jw) (As := as.map jw) (b := b) (locs := locs) (cells := cells) (slots := slots) (below := below) (e := e) (H := H) (meth := meth) (nL := y.2.2.1) (Ts := jtb) ⟨C.1, C.2.1, C.2.2.2.1, C.2.2.2.2.1, hts⟩ hM.met ⟨hcb, h6, hts _ h5⟩
    ⟨jP.blind g _ h, fun U hU hW => jP.now hH C.2.2.2.2.2.2.2.2.2.1 hS C.2.2.2.2.2.2.2.2.2.2.2 hU hW⟩
    rfl (by simp) hL.1 (by simp [jw, va_rf]) (lv_room hR.2) hd ⟨(by show cells + mcx ≤ mc; omega), (by show slots + msx ≤ ms; omega)⟩
  exact jg_runM C hS hc hs hL hk hn hr
end JCa
