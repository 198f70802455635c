/-! contracts: checks, redefines, depending -/
def slk (S : sg) (v : Nat) : sg := (fun a i => if a = 18 ∧ i = 0 then v else S.1 a i, S.2)
def schk (S : sg) (v : Bool) : Int32 × sg := (nI (looked S), slk S (if v then 1 else 0))
section Chk1
variable {g : jg} {h : jh} {S : sg} {x b1 b2 tr pl so rw al : Nat} {ad : Nat → Nat} {Q : jq}
theorem RTree.slk (R : RTree h S tr rw ad) {v : Nat} {w : Int32} : RTree (jsi h 452 x w) (slk S v) tr rw ad := R
theorem c_checks (C : RCx h S x b1 b2 tr pl so rw al ad) {v : Bool} (hQ : ∀ h', RC h' (schk S v).2 x b1 b2 (jn h al) → FB b1 b2 h h' → jz h' = jz h → Q (.inl (some (.inl (schk S v).1))) h') : jM g mX9_checks [.inr (.inr (some x)), .inl (jb v)] h 0 0 Q := by
  obtain ⟨x1, x2, x3, x4, x5, x6, x7, x8, x9, x10, x11, x12, x13, x14, R, H, B, J, L⟩ := id C
  refine eX9_checks ⟨x1, jb_01 _, ?_⟩
  intro h1 e1
  rw [show ji h1 453 x = nI (looked S) by rw [e1]; exact x7]
  refine hQ h1 ⟨tr, pl, so, rw, al, ad, ?_, by rw [e1]; rfl⟩ (by rw [e1]; exact fun a p q => ⟨rfl, rfl, fun k hk => ⟨by rw [ji_si, if_neg (by omega)], rfl, rfl⟩, fun _ => ⟨rfl, rfl, rfl⟩⟩) (by rw [e1]; rfl)
  subst e1
  refine ⟨x1, x2, x3, x4, x5, ?_, x7, x8, x9, x10, x11, x12, x13, x14, R.slk, H, B, J, L⟩
  rw [ji_si, if_pos ⟨rfl, rfl⟩]
  cases v <;> rfl
end Chk1
