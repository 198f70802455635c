/-! reads of a changed heap (by program) -/
theorem jz_si {h : jh} {k a : Nat} {x : Int32} : jz (jsi h k a x) = jz h := rfl
theorem jt_si {h : jh} {k a : Nat} {x : Int32} : jt (jsi h k a x) = jt h := rfl
theorem ji_si {h : jh} {k a k2 a2 : Nat} {x : Int32} : ji (jsi h k a x) k2 a2 = if k2 = k ∧ a2 = a then x else ji h k2 a2 := rfl
theorem jl_si {h : jh} {k a : Nat} {x : Int32} : jl (jsi h k a x) = jl h := rfl
theorem jr_si {h : jh} {k a : Nat} {x : Int32} : jr (jsi h k a x) = jr h := rfl
theorem jn_si {h : jh} {k a : Nat} {x : Int32} : jn (jsi h k a x) = jn h := rfl
theorem jI_si {h : jh} {k a : Nat} {x : Int32} : jI (jsi h k a x) = jI h := rfl
theorem jL_si {h : jh} {k a : Nat} {x : Int32} : jL (jsi h k a x) = jL h := rfl
theorem jR_si {h : jh} {k a : Nat} {x : Int32} : jR (jsi h k a x) = jR h := rfl
theorem jz_sl {h : jh} {k a : Nat} {x : Int64} : jz (jsl h k a x) = jz h := rfl
theorem jt_sl {h : jh} {k a : Nat} {x : Int64} : jt (jsl h k a x) = jt h := rfl
theorem ji_sl {h : jh} {k a : Nat} {x : Int64} : ji (jsl h k a x) = ji h := rfl
theorem jl_sl {h : jh} {k a k2 a2 : Nat} {x : Int64} : jl (jsl h k a x) k2 a2 = if k2 = k ∧ a2 = a then x else jl h k2 a2 := rfl
theorem jr_sl {h : jh} {k a : Nat} {x : Int64} : jr (jsl h k a x) = jr h := rfl
theorem jn_sl {h : jh} {k a : Nat} {x : Int64} : jn (jsl h k a x) = jn h := rfl
theorem jI_sl {h : jh} {k a : Nat} {x : Int64} : jI (jsl h k a x) = jI h := rfl
theorem jL_sl {h : jh} {k a : Nat} {x : Int64} : jL (jsl h k a x) = jL h := rfl
theorem jR_sl {h : jh} {k a : Nat} {x : Int64} : jR (jsl h k a x) = jR h := rfl
theorem jz_sr {h : jh} {k a : Nat} {x : Option Nat} : jz (jsr h k a x) = jz h := rfl
theorem jt_sr {h : jh} {k a : Nat} {x : Option Nat} : jt (jsr h k a x) = jt h := rfl
theorem ji_sr {h : jh} {k a : Nat} {x : Option Nat} : ji (jsr h k a x) = ji h := rfl
theorem jl_sr {h : jh} {k a : Nat} {x : Option Nat} : jl (jsr h k a x) = jl h := rfl
theorem jr_sr {h : jh} {k a k2 a2 : Nat} {x : Option Nat} : jr (jsr h k a x) k2 a2 = if k2 = k ∧ a2 = a then x else jr h k2 a2 := rfl
theorem jn_sr {h : jh} {k a : Nat} {x : Option Nat} : jn (jsr h k a x) = jn h := rfl
theorem jI_sr {h : jh} {k a : Nat} {x : Option Nat} : jI (jsr h k a x) = jI h := rfl
theorem jL_sr {h : jh} {k a : Nat} {x : Option Nat} : jL (jsr h k a x) = jL h := rfl
theorem jR_sr {h : jh} {k a : Nat} {x : Option Nat} : jR (jsr h k a x) = jR h := rfl
theorem jz_sI {h : jh} {k a : Nat} {x : Int32} : jz (jsI h k a x) = jz h := rfl
theorem jt_sI {h : jh} {k a : Nat} {x : Int32} : jt (jsI h k a x) = jt h := rfl
theorem ji_sI {h : jh} {k a : Nat} {x : Int32} : ji (jsI h k a x) = ji h := rfl
theorem jl_sI {h : jh} {k a : Nat} {x : Int32} : jl (jsI h k a x) = jl h := rfl
theorem jr_sI {h : jh} {k a : Nat} {x : Int32} : jr (jsI h k a x) = jr h := rfl
theorem jn_sI {h : jh} {k a : Nat} {x : Int32} : jn (jsI h k a x) = jn h := rfl
theorem jI_sI {h : jh} {k a k2 a2 : Nat} {x : Int32} : jI (jsI h k a x) k2 a2 = if k2 = k ∧ a2 = a then x else jI h k2 a2 := rfl
theorem jL_sI {h : jh} {k a : Nat} {x : Int32} : jL (jsI h k a x) = jL h := rfl
theorem jR_sI {h : jh} {k a : Nat} {x : Int32} : jR (jsI h k a x) = jR h := rfl
theorem jz_sL {h : jh} {k a : Nat} {x : Int64} : jz (jsL h k a x) = jz h := rfl
theorem jt_sL {h : jh} {k a : Nat} {x : Int64} : jt (jsL h k a x) = jt h := rfl
theorem ji_sL {h : jh} {k a : Nat} {x : Int64} : ji (jsL h k a x) = ji h := rfl
theorem jl_sL {h : jh} {k a : Nat} {x : Int64} : jl (jsL h k a x) = jl h := rfl
theorem jr_sL {h : jh} {k a : Nat} {x : Int64} : jr (jsL h k a x) = jr h := rfl
theorem jn_sL {h : jh} {k a : Nat} {x : Int64} : jn (jsL h k a x) = jn h := rfl
theorem jI_sL {h : jh} {k a : Nat} {x : Int64} : jI (jsL h k a x) = jI h := rfl
theorem jL_sL {h : jh} {k a k2 a2 : Nat} {x : Int64} : jL (jsL h k a x) k2 a2 = if k2 = k ∧ a2 = a then x else jL h k2 a2 := rfl
theorem jR_sL {h : jh} {k a : Nat} {x : Int64} : jR (jsL h k a x) = jR h := rfl
theorem jz_sR {h : jh} {k a : Nat} {x : Option Nat} : jz (jsR h k a x) = jz h := rfl
theorem jt_sR {h : jh} {k a : Nat} {x : Option Nat} : jt (jsR h k a x) = jt h := rfl
theorem ji_sR {h : jh} {k a : Nat} {x : Option Nat} : ji (jsR h k a x) = ji h := rfl
theorem jl_sR {h : jh} {k a : Nat} {x : Option Nat} : jl (jsR h k a x) = jl h := rfl
theorem jr_sR {h : jh} {k a : Nat} {x : Option Nat} : jr (jsR h k a x) = jr h := rfl
theorem jn_sR {h : jh} {k a : Nat} {x : Option Nat} : jn (jsR h k a x) = jn h := rfl
theorem jI_sR {h : jh} {k a : Nat} {x : Option Nat} : jI (jsR h k a x) = jI h := rfl
theorem jL_sR {h : jh} {k a : Nat} {x : Option Nat} : jL (jsR h k a x) = jL h := rfl
theorem jR_sR {h : jh} {k a k2 a2 : Nat} {x : Option Nat} : jR (jsR h k a x) k2 a2 = if k2 = k ∧ a2 = a then x else jR h k2 a2 := rfl
theorem jz_mk {h : jh} {t n : Nat} : jz (jmk h t n) = jz h + 1 := rfl
theorem jt_mk {h : jh} {t n a : Nat} : jt (jmk h t n) a = if a = jz h then t else jt h a := rfl
theorem jn_mk {h : jh} {t n a : Nat} : jn (jmk h t n) a = if a = jz h then n else jn h a := rfl
theorem ji_mk {h : jh} {t n k a : Nat} : ji (jmk h t n) k a = if a = jz h then 0 else ji h k a := rfl
theorem jl_mk {h : jh} {t n k a : Nat} : jl (jmk h t n) k a = if a = jz h then 0 else jl h k a := rfl
theorem jr_mk {h : jh} {t n k a : Nat} : jr (jmk h t n) k a = if a = jz h then none else jr h k a := rfl
theorem jI_mk {h : jh} {t n a i : Nat} : jI (jmk h t n) a i = if a = jz h then 0 else jI h a i := rfl
theorem jL_mk {h : jh} {t n a i : Nat} : jL (jmk h t n) a i = if a = jz h then 0 else jL h a i := rfl
theorem jR_mk {h : jh} {t n a i : Nat} : jR (jmk h t n) a i = if a = jz h then none else jR h a i := rfl
theorem jz_gr {h : jh} {z : Nat} : jz (jgr h z) = z := rfl
theorem jt_gr {h : jh} {z : Nat} : jt (jgr h z) = jt h := rfl
theorem ji_gr {h : jh} {z : Nat} : ji (jgr h z) = ji h := rfl
theorem jl_gr {h : jh} {z : Nat} : jl (jgr h z) = jl h := rfl
theorem jr_gr {h : jh} {z : Nat} : jr (jgr h z) = jr h := rfl
theorem jn_gr {h : jh} {z : Nat} : jn (jgr h z) = jn h := rfl
theorem jI_gr {h : jh} {z : Nat} : jI (jgr h z) = jI h := rfl
theorem jL_gr {h : jh} {z : Nat} : jL (jgr h z) = jL h := rfl
theorem jR_gr {h : jh} {z : Nat} : jR (jgr h z) = jR h := rfl
/-- cells of ours lie below the size -/
def HW (h : jh) : Prop := ∀ a, jt h a ≠ 0 → a < jz h
theorem HW.ne {h : jh} (H : HW h) {a : Nat} (ha : jt h a ≠ 0) : a ≠ jz h := fun q => by have := H a ha; omega
/-- the block b1 .. b2 (the reference's cells) stays as it is -/
def FB (b1 b2 : Nat) (h h' : jh) : Prop := ∀ a, b1 ≤ a → a ≤ b2 → jt h' a = jt h a ∧ jn h' a = jn h a ∧ (∀ k, 512 ≤ k → ji h' k a = ji h k a ∧ jl h' k a = jl h k a ∧ jr h' k a = jr h k a) ∧ ∀ i, jI h' a i = jI h a i ∧ jL h' a i = jL h a i ∧ jR h' a i = jR h a i
theorem FB.rf {b1 b2 : Nat} {h : jh} : FB b1 b2 h h := fun _ _ _ => ⟨rfl, rfl, fun _ _ => ⟨rfl, rfl, rfl⟩, fun _ => ⟨rfl, rfl, rfl⟩⟩
theorem FB.trans {b1 b2 : Nat} {h h1 h2 : jh} (p : FB b1 b2 h h1) (q : FB b1 b2 h1 h2) : FB b1 b2 h h2 := fun a h1 h2 => by
  obtain ⟨p1, p2, p3, p4⟩ := p a h1 h2
  obtain ⟨q1, q2, q3, q4⟩ := q a h1 h2
  exact ⟨q1.trans p1, q2.trans p2, fun k hk => ⟨(q3 k hk).1.trans (p3 k hk).1, (q3 k hk).2.1.trans (p3 k hk).2.1, (q3 k hk).2.2.trans (p3 k hk).2.2⟩, fun i => ⟨(q4 i).1.trans (p4 i).1, (q4 i).2.1.trans (p4 i).2.1, (q4 i).2.2.trans (p4 i).2.2⟩⟩
section FBs
variable {h : jh}
theorem HW.si {k a : Nat} {x : Int32} (H : HW h) : HW (jsi h k a x) := H
theorem HW.sl {k a : Nat} {x : Int64} (H : HW h) : HW (jsl h k a x) := H
theorem HW.sr {k a : Nat} {x : Option Nat} (H : HW h) : HW (jsr h k a x) := H
theorem HW.sI {a i : Nat} {x : Int32} (H : HW h) : HW (jsI h a i x) := H
theorem HW.sL {a i : Nat} {x : Int64} (H : HW h) : HW (jsL h a i x) := H
theorem HW.sR {a i : Nat} {x : Option Nat} (H : HW h) : HW (jsR h a i x) := H
theorem HW.mk {t n : Nat} (H : HW h) : HW (jmk h t n) := fun a ha => by
  rw [jt_mk] at ha
  rw [jz_mk]
  by_cases hc : a = jz h
  · omega
  · rw [if_neg hc] at ha
    have := H a ha
    omega
theorem HW.gr {z : Nat} (H : HW h) (hz : jz h ≤ z) : HW (jgr h z) := fun a ha => by
  have := H a ha
  rw [jz_gr]
  omega
end FBs
