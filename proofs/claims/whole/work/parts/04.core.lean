/-! MY OWN JUDGEMENT OVER THE KIT'S: a heap held by fields (class and field a key), typed values; jG: the machine at a place of a method's code; jM: a method's contract. -/
abbrev jv : Type := Int32 ⊕ (Int64 ⊕ Option Nat)
def jw : jv → Value
  | .inl x => .int x
  | .inr (.inl x) => .long x
  | .inr (.inr o) => va_rf o
/-- size; kind of a cell (0: not ours; c + 1: object of class c; 20 .. 24: rows of int, byte, long, Item, boolean); int, long, reference fields by key and cell; lengths of rows; their contents -/
abbrev jh : Type := Nat × (Nat → Nat) × (Nat → Nat → Int32) × (Nat → Nat → Int64) × (Nat → Nat → Option Nat) × (Nat → Nat) × (Nat → Nat → Int32) × (Nat → Nat → Int64) × (Nat → Nat → Option Nat)
def jz (h : jh) : Nat := h.1
def jt (h : jh) : Nat → Nat := h.2.1
def ji (h : jh) : Nat → Nat → Int32 := h.2.2.1
def jl (h : jh) : Nat → Nat → Int64 := h.2.2.2.1
def jr (h : jh) : Nat → Nat → Option Nat := h.2.2.2.2.1
def jn (h : jh) : Nat → Nat := h.2.2.2.2.2.1
def jI (h : jh) : Nat → Nat → Int32 := h.2.2.2.2.2.2.1
def jL (h : jh) : Nat → Nat → Int64 := h.2.2.2.2.2.2.2.1
def jR (h : jh) : Nat → Nat → Option Nat := h.2.2.2.2.2.2.2.2
/-- a function of two numbers, changed at one place -/
def jup {α : Type} (f : Nat → Nat → α) (k a : Nat) (x : α) : Nat → Nat → α := fun k' a' => if k' = k ∧ a' = a then x else f k' a'
def jsi (h : jh) (k a : Nat) (x : Int32) : jh := (jz h, jt h, jup (ji h) k a x, jl h, jr h, jn h, jI h, jL h, jR h)
def jsl (h : jh) (k a : Nat) (x : Int64) : jh := (jz h, jt h, ji h, jup (jl h) k a x, jr h, jn h, jI h, jL h, jR h)
def jsr (h : jh) (k a : Nat) (x : Option Nat) : jh := (jz h, jt h, ji h, jl h, jup (jr h) k a x, jn h, jI h, jL h, jR h)
def jsI (h : jh) (a i : Nat) (x : Int32) : jh := (jz h, jt h, ji h, jl h, jr h, jn h, jup (jI h) a i x, jL h, jR h)
def jsL (h : jh) (a i : Nat) (x : Int64) : jh := (jz h, jt h, ji h, jl h, jr h, jn h, jI h, jup (jL h) a i x, jR h)
def jsR (h : jh) (a i : Nat) (x : Option Nat) : jh := (jz h, jt h, ji h, jl h, jr h, jn h, jI h, jL h, jup (jR h) a i x)
/-- one cell more: an object with its fields 0, or a row of n places with 0 in them -/
def jmk (h : jh) (t n : Nat) : jh := (jz h + 1, fun a => if a = jz h then t else jt h a, fun k a => if a = jz h then 0 else ji h k a, fun k a => if a = jz h then 0 else jl h k a, fun k a => if a = jz h then none else jr h k a,
  fun a => if a = jz h then n else jn h a, fun a i => if a = jz h then 0 else jI h a i, fun a i => if a = jz h then 0 else jL h a i, fun a i => if a = jz h then none else jR h a i)
/-- cells of others more -/
def jgr (h : jh) (n : Nat) : jh := (n, jt h, ji h, jl h, jr h, jn h, jI h, jL h, jR h)
/-- a reference that is none's: 0 -/
def jd (o : Option Nat) : Nat := o.getD 0
/-- the classes whose objects are ours -/
abbrev jcl : List vw_C := [(RX0, TX0, 20), (RX3, TX3, 2), (RX4, TX4, 3), (RX5, TX5, 6), (RX6, TX6, 2), (RX7, TX7, 5), (RX8, TX8, 2), (RX9, TX9, 6), (RX10, TX10, 36)]
def jtyc : Nat → Nat → FieldType
  | 0 => tyX0 | 1 => tyX3 | 2 => tyX4 | 3 => tyX5 | 4 => tyX6 | 5 => tyX7 | 6 => tyX8 | 7 => tyX9 | _ => tyX10
def jNc : Nat → Nat
  | 0 => 20 | 1 => 2 | 2 => 3 | 3 => 6 | 4 => 2 | 5 => 5 | 6 => 2 | 7 => 6 | _ => 36
/-- what a field of a type is kept in: 0 int (boolean too), 1 long, 2 reference -/
def jkd : FieldType → Nat
  | .long => 1
  | .object _ => 2
  | .array _ => 2
  | _ => 0
def jf (h : jh) (ci k a : Nat) : jv := match jkd (jtyc ci k) with
  | 0 => .inl (ji h (64 * ci + k) a)
  | 1 => .inr (.inl (jl h (64 * ci + k) a))
  | _ => .inr (.inr (jr h (64 * ci + k) a))
/-- launch; classes' numbers and slots; row classes; the first cell that is ours; the script's cell, length, ints -/
abbrev jg : Type := Launch × va_G × (Nat → ClassId) × Nat × Nat × Nat × (Nat → Int32)
def jgD (g : jg) : va_G := g.2.1
def jgA (g : jg) : Nat → ClassId := g.2.2.1
def jgb (g : jg) : Nat := g.2.2.2.1
def jgs (g : jg) : Nat := g.2.2.2.2.1
def jgL (g : jg) : Nat := g.2.2.2.2.2.1
def jgx (g : jg) : Nat → Int32 := g.2.2.2.2.2.2
def jA (g : jg) : Nat → Prop := fun q => jgb g ≤ q
def jrow (h : jh) (t a : Nat) : Nat → Value := fun j => match t with
  | 2 => .long (jL h a j)
  | 3 => va_rf (jR h a j)
  | _ => .int (jI h a j)
def jtys (g : jg) : List (ClassId × FieldType) := [(jgA g 0, .int), (jgA g 1, .byte), (jgA g 2, .long), (jgA g 3, .object RX0), (jgA g 4, .boolean)]
/-- the machine's heap H is what h says -/
def jH (g : jg) (h : jh) (H : Heap) : Prop :=
  H.size = jz h ∧ jgb g ≤ jz h ∧ (∀ a, jt h a ≠ 0 → jgb g ≤ a ∧ a < jz h) ∧
  (∀ a ci, jt h a = ci + 1 → ci < 9 → t_OB a ((jgD g).1 ci) (jNc ci) ((jgD g).2 ci) H (fun k => jw (jf h ci k a))) ∧
  (∀ a t, jt h a = t + 20 → t < 5 → H[a]? = some (arrV (jgA g t) (jn h a) (jrow h t a)))
def jcst : List (String × String) := [("java/lang/ArrayIndexOutOfBoundsException", "java/lang/ArrayIndexOutOfBoundsException"), ("java/lang/IllegalArgumentException", "java/lang/IllegalArgumentException"), ("java/lang/IllegalStateException", "java/lang/IllegalStateException")]
def jnst : List (String × Nat × MethodName × String) := [("DataLayout", 27, ⟨"DataLayout$Store", "<init>", "()V"⟩, "DataLayout"), ("DataLayout", 281, ⟨"DataLayout$Ranges", "<init>", "()V"⟩, "DataLayout"), ("DataLayout", 9, ⟨"DataLayout$Tree", "<init>", "()V"⟩, "DataLayout"), ("DataLayout$Item", 42, ⟨"DataLayout$Spot", "<init>", "()V"⟩, "DataLayout")]
def jdcl : List MethodName := [⟨"java/lang/IndexOutOfBoundsException", "<init>", "(Ljava/lang/String;)V"⟩, ⟨"java/lang/RuntimeException", "<init>", "(Ljava/lang/String;)V"⟩, ⟨"java/lang/Exception", "<init>", "(Ljava/lang/String;)V"⟩, ⟨"java/lang/Throwable", "<init>", "(Ljava/lang/String;)V"⟩]
/-- what a state says of the classes, and of the old heap -/
def jS (g : jg) (U : State) : Prop :=
  va_K (jgD g) jcl (jtys g) U ∧ vx_Zq Bundle.tN "UNASSIGNED_STACK" Bundle.steD (jA g) U U.heap ∧ vx_Zq Bundle.tN "SUPPRESSED_SENTINEL" Bundle.listD (jA g) U U.heap ∧
  (∀ q ∈ jcst, va_Nw (.castable q.1 q.2) U) ∧ (∀ q ∈ jnst, va_Nw (.methodLinkNest q.1 q.2.1 q.2.2.1 q.2.2.2) U) ∧ (∀ own k tx, Cond.stringRef own k tx ∈ lw_tbl → ∃ a, vk_R own k tx a U) ∧ va_X (jgs g) (jgL g) (jgx g) U U.heap ∧ jgs g < jgb g ∧ va_AO RX0 U ∧ g.1.stackTraces = false ∧ (∀ x ∈ jdcl, va_Nw (.declares x) U) ∧ va_Nc "java/lang/IllegalStateException" "java/lang/IllegalArgumentException" U
/-- the words that hold at every state -/
def jtb : List Cond := lw_tbl.filter goodWord
theorem jtb_mem {w : Cond} (h : w ∈ lw_tbl) (hg : goodWord w = true) : w ∈ jtb := List.mem_filter.mpr ⟨h, hg⟩
/-- a method: name, code, locals, what it returns, frames and locals' words below it -/
abbrev jm : Type := MethodName × ByteArray × Nat × Option FieldType × Nat × Nat
def jws (y : jm) : List Cond := Cond.code y.1 y.2.1 y.2.2.1 y.2.2.2.1 :: jtb
def jrm (y : jm) (mc ms : Nat) : Room := { frames := y.2.2.2.2.1, cells := mc, slots := ms, locals := y.2.2.2.2.2 }
theorem jtb_good {x : jm} (hx : Cond.code x.1 x.2.1 x.2.2.1 x.2.2.2.1 ∈ jtb) : GoodIn jtb (jws x) := by
  intro w hw
  have hm : w ∈ jtb := by
    rcases List.mem_cons.mp hw with rfl | h
    · exact hx
    · exact h
  exact ⟨hm, good_of_word (List.mem_filter.mp hm).2⟩
abbrev jq : Type := (Option jv ⊕ Nat) → jh → Prop
def jxn : Nat → String
  | 0 => "java/lang/ArrayIndexOutOfBoundsException"
  | 1 => "java/lang/IllegalArgumentException"
  | _ => "java/lang/IllegalStateException"
def jP (g : jg) (as : List jv) (h : jh) : Array Value → State → Prop := fun a U => a = (as.map jw).toArray ∧ jH g h U.heap ∧ jS g U
def jQ (g : jg) (Q : jq) : Array Value → State → Outcome → State → Prop := fun _ st oc t => (∃ r h, oc = .returned (r.map jw) ∧ Q (.inl r) h ∧ jH g h t.heap) ∧ va_F (jA g) st t
def jX (g : jg) (Q : jq) : String → State → State → Prop := fun E st t => (∃ x h, E = jxn x ∧ Q (.inr x) h ∧ jH g h t.heap) ∧ va_F (jA g) st t
/-- a method's contract: called with as in a heap h it ends in Q, making at most mc cells of ms slots -/
def jM (g : jg) (y : jm) (as : List jv) (h : jh) (mc ms : Nat) (Q : jq) : Prop := vx_Met g.1 y.1 (jws y) (jrm y mc ms) (jP g as h) (jQ g Q) (jX g Q) mc ms (jA g)
def jC (g : jg) (y : jm) (p : Program) (s : State) (m : MethodId) (args : Array Value) (meth : Method) (c : Code) : Prop :=
  p.tables.exec = Jvm.exec ∧ c.code = y.2.1 ∧ meth.sig.returnType = y.2.2.2.1 ∧ c.maxLocals = y.2.2.1 ∧ s.vm.findClass y.1.cls = some m.cls ∧ (∀ w ∈ jtb, w.before args s = true) ∧ meth.locks = false ∧ meth.name = y.1.name ∧ (∀ x ∈ c.exceptionTable.toList, False) ∧ jS g s ∧ g.1.stackTraces = false ∧ jgb g ≤ s.heap.size
def jlv (lv : List (Nat × jv)) : List (Nat × Value) := lv.map (fun q => (q.1, jw q.2))
/-- THE JUDGEMENT: at pc with locals lv, stack st, heap h, with k cells of n slots left to make: the method ends in Q -/
def jG (g : jg) (y : jm) (pc : Nat) (lv : List (Nat × jv)) (st : List jv) (h : jh) (k n : Nat) (Q : jq) : Prop :=
  ∀ (p : Program) (e : Env) (s : State) (m : MethodId) (args : Array Value) (below : List Frame) (meth : Method) (c : Code) (H : Heap) (locs : List Loc) (cells slots mc ms : Nat) (ls : Array Slot),
    jC g y p s m args meth c → jH g h H → va_S (jA g) s.heap H locs → cells + k ≤ mc → slots + n ≤ ms → lv_has ls y.2.2.1 (jlv lv) →
    W p g.1 e (jrm y mc ms) s m args below meth c H locs cells slots (vx_MQ below (jQ g Q) (jX g Q) args s mc ms (jA g)) (F0 m pc ls (st.map jw))
