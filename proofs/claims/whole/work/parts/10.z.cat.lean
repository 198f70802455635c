theorem jcat1 (v : jv) : (jw v).category ≤ 2 := by
  rcases v with x | x | x
  · exact Nat.le_of_ble_eq_true rfl
  · exact Nat.le_of_ble_eq_true rfl
  · cases x <;> exact Nat.le_of_ble_eq_true rfl
/-- at most four values lie below a call -/
theorem jcat_le (st : List jv) (h : st.length ≤ 4) : ((st.map jw).map fun v => v.category).sum ≤ 8 := by
  have : ∀ l : List jv, ((l.map jw).map fun v => v.category).sum ≤ 2 * l.length := by
    intro l
    induction l with
    | nil => simp
    | cons a t ih =>
      have := jcat1 a
      simp only [List.map_cons, List.sum_cons, List.length_cons]
      omega
  have := this st
  omega
