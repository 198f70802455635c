/-! the reference's subscript -/
section ModO
variable {g : jg} {h h' h1 : jh} {S : sg} {m : Nat} {Q : jq}
/-- with looking, where subscripts lead is within the bytes -/
def sbO (S : sg) (i : Nat) (gv : Nat → Int32) : Nat → Nat → Prop := fun k n => ∀ j, k ≤ j → j < k + n → 1 ≤ (gv j).toInt ∧ (gv j).toInt ≤ nw S (tout S (tabs S i - j) i)
theorem sb_in (W : WA S) (hd : ¬ laid S = 0) {i : Nat} (i1 : 1 ≤ i) (i2 : i ≤ sN S) (hl : lies S i = true) {x : Nat → Nat} (hx : ∀ k, k < tabs S i → x k < mo S (tki S i k)) : pl S i + (x 0 * spk S (sF S) i 0 + x 1 * spk S (sF S) i 1 + x 2 * spk S (sF S) i 2) + ln S i ≤ tot S := by
  have WBh := W.wb
  have h3 := WBh.tab i
  obtain ⟨l1, l2⟩ := W.2.2.2.2.2.1
  obtain ⟨ok, -, et, -⟩ := l2 (by omega)
  obtain ⟨-, p1, p2, -⟩ := W.plc hd i
  have r0 : rn S i = 0 := by
    by_cases w : rn S i = 0
    · exact w
    · have := ((W.2.2.1.2.2.2.2.2.2.2.2.1 i).2 w).2.2.1
      have := lies_of hl
      omega
  rw [if_pos r0] at p1 p2
  have hL : ∀ k, (if k < tabs S i then x k else 0) < lim S i k := by
    intro k
    unfold lim
    by_cases q : k < tabs S i
    · rw [if_pos q, if_pos q]; exact hx k q
    · rw [if_neg q, if_neg q]; decide
  have hs : ∀ k, (if k < tabs S i then x k else 0) * spk S (sF S) i k = x k * spk S (sF S) i k := by
    intro k
    by_cases q : k < tabs S i
    · rw [if_pos q]
    · have : spk S (sF S) i k = 0 := if_neg q
      rw [this, Nat.mul_zero, Nat.mul_zero]
  obtain ⟨f, f1, f2⟩ := ent_f (F := sF S) WBh.p h3 (hL 0) (hL 1) (hL 2)
  have := off_all WBh ok i1 i2 hl f1
  have f2' : off S (mfin S (gU S) true) f 1 i = x 0 * spk S (sF S) i 0 + x 1 * spk S (sF S) i 1 + x 2 * spk S (sF S) i 2 := by
    refine f2.trans ?_
    rw [hs 0, hs 1, hs 2]
  rw [f2'] at this
  rw [p1, p2, et]
  exact this
end ModO
