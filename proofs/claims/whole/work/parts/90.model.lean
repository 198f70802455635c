/-! entries of tables, one by one -/
section ModH
variable {S : sg} {F : lm}
theorem tout_lt (hp : ∀ i, 0 < i → cpa S i < i) : ∀ i a b, a < b → b < tabs S i → tout S b i < tout S a i := by
  intro i
  induction i using Nat.strongRecOn with
  | _ i ih =>
    intro a b hab hb
    by_cases h0 : i = 0
    · subst h0; cases hb
    · have pi := hp i (by omega)
      have ts := tabs_step hp (j := i) (by omega)
      rw [tout_step hp (a := a) (by omega), tout_step hp (a := b) (by omega)]
      by_cases q : tb S i = 0
      · rw [if_pos q, if_pos q]
        rw [if_neg (fun z => z q)] at ts
        exact ih _ pi a b hab (by omega)
      · rw [if_neg q, if_neg q, if_neg (by omega : ¬ b = 0)]
        rw [if_pos q] at ts
        by_cases qa : a = 0
        · rw [if_pos qa]
          have := (tout_ok hp (cpa S i) (b - 1) (by omega)).2.1
          omega
        · rw [if_neg qa]
          exact ih _ pi (a - 1) (b - 1) (by omega) (by omega)
theorem tout_all (hp : ∀ i, 0 < i → cpa S i < i) : ∀ i t, onc S i t = true → ¬ tb S t = 0 → ∃ a, a < tabs S i ∧ tout S a i = t := by
  intro i
  induction i using Nat.strongRecOn with
  | _ i ih =>
    intro t ht hb
    by_cases h0 : i = 0
    · subst h0; cases ht
    · have pi := hp i (by omega)
      have ts := tabs_step hp (j := i) (by omega)
      rcases onc_or hp ht with e | e
      · subst e
        rw [if_pos hb] at ts
        exact ⟨0, by omega, by rw [tout_step hp (by omega), if_neg hb, if_pos rfl]⟩
      · obtain ⟨a, a1, a2⟩ := ih _ pi t e hb
        by_cases q : tb S i = 0
        · exact ⟨a, by omega, by rw [tout_step hp (by omega), if_pos q]; exact a2⟩
        · rw [if_pos q] at ts
          exact ⟨a + 1, by omega, by rw [tout_step hp (by omega), if_neg q, if_neg (by omega)]; exact a2⟩
/-- a sum -/
def sumA (f : Nat → Nat) : Nat → Nat
  | 0 => 0
  | n + 1 => sumA f n + f n
theorem sumA_sh (f : Nat → Nat) : ∀ n, sumA f (n + 1) = f 0 + sumA (fun k => f (k + 1)) n := by
  intro n
  induction n with
  | zero => show 0 + f 0 = f 0 + 0; omega
  | succ n ih =>
    show sumA f (n + 1) + f (n + 1) = f 0 + (sumA (fun k => f (k + 1)) n + f (n + 1))
    omega
theorem off_sum (hp : ∀ i, 0 < i → cpa S i < i) {f : Nat → Nat} : ∀ i, off S F f 1 i = sumA (fun a => f (tout S a i) * F 2 (tout S a i)) (tabs S i) := by
  intro i
  induction i using Nat.strongRecOn with
  | _ i ih =>
    by_cases h0 : i = 0
    · subst h0; rfl
    · have pi := hp i (by omega)
      have ts := tabs_step hp (j := i) (by omega)
      rw [off_step hp (by omega) (by omega), ih _ pi, ts]
      by_cases q : tb S i = 0
      · rw [if_pos q, if_neg (fun z => z q), Nat.zero_add, Nat.zero_add]
        congr 1
        funext a
        rw [tout_step hp (a := a) (i := i) (by omega), if_pos q]
      · rw [if_neg q, if_pos q, Nat.add_comm 1 (tabs S (cpa S i)), sumA_sh]
        rw [tout_step hp (a := 0) (i := i) (by omega), if_neg q, if_pos rfl]
        congr 2
        funext a
        rw [tout_step hp (a := a + 1) (i := i) (by omega), if_neg q, if_neg (by omega), Nat.add_sub_cancel]
/-- table k from outside, how many entries, how far apart -/
def tki (S : sg) (i k : Nat) : Nat := tout S (tabs S i - 1 - k) i
def lim (S : sg) (i k : Nat) : Nat := if k < tabs S i then mo S (tki S i k) else 1
def spk (S : sg) (F : lm) (i k : Nat) : Nat := if k < tabs S i then F 2 (tki S i k) else 0
theorem off_3 (hp : ∀ i, 0 < i → cpa S i < i) {f : Nat → Nat} {i : Nat} (h3 : tabs S i ≤ 3) : off S F f 1 i = f (tki S i 0) * spk S F i 0 + f (tki S i 1) * spk S F i 1 + f (tki S i 2) * spk S F i 2 := by
  rw [off_sum hp]
  unfold spk tki
  have hc : tabs S i = 0 ∨ tabs S i = 1 ∨ tabs S i = 2 ∨ tabs S i = 3 := by omega
  rcases hc with e | e | e | e <;> rw [e]
  · simp [sumA]
  · simp [sumA]
  · simp [sumA]; omega
  · simp [sumA]; omega
/-- entries x, y, z of the three tables are entries of them all -/
theorem ent_f (hp : ∀ i, 0 < i → cpa S i < i) {i x y z : Nat} (h3 : tabs S i ≤ 3) (hx : x < lim S i 0) (hy : y < lim S i 1) (hz : z < lim S i 2) : ∃ f : Nat → Nat, (∀ t, onc S i t = true → ¬ tb S t = 0 → f t < mo S t) ∧ off S F f 1 i = x * spk S F i 0 + y * spk S F i 1 + z * spk S F i 2 := by
  have d : ∀ k l, k < l → l < tabs S i → tki S i k < tki S i l := fun k l h1 h2 => tout_lt hp i _ _ (by omega) (by omega)
  have sp : ∀ k, ¬ k < tabs S i → spk S F i k = 0 := fun k h => if_neg h
  have lm' : ∀ k, k < tabs S i → lim S i k = mo S (tki S i k) := fun k h => if_pos h
  obtain ⟨f, hf⟩ : ∃ f : Nat → Nat, f = fun t => if t = tki S i 0 then x else if t = tki S i 1 then y else z := ⟨_, rfl⟩
  have f0 : f (tki S i 0) = x := by rw [hf]; exact if_pos rfl
  have f1 : 1 < tabs S i → f (tki S i 1) = y := fun h => by
    have := d 0 1 (by decide) h
    rw [hf]
    show (if _ then _ else _) = _
    rw [if_neg (by omega), if_pos rfl]
  have f2 : 2 < tabs S i → f (tki S i 2) = z := fun h => by
    have := d 0 2 (by decide) h
    have := d 1 2 (by decide) h
    rw [hf]
    show (if _ then _ else _) = _
    rw [if_neg (by omega), if_neg (by omega)]
  refine ⟨f, fun t ht hb => ?_, ?_⟩
  · obtain ⟨a, a1, a2⟩ := tout_all hp i t ht hb
    have e : tki S i (tabs S i - 1 - a) = t := by
      unfold tki
      rw [show tabs S i - 1 - (tabs S i - 1 - a) = a by omega]; exact a2
    have hc : tabs S i - 1 - a = 0 ∨ tabs S i - 1 - a = 1 ∨ tabs S i - 1 - a = 2 := by omega
    rcases hc with q | q | q <;> rw [q] at e <;> rw [← e]
    · rw [f0, ← lm' 0 (by omega)]; exact hx
    · rw [f1 (by omega), ← lm' 1 (by omega)]; exact hy
    · rw [f2 (by omega), ← lm' 2 (by omega)]; exact hz
  · have g1 : f (tki S i 1) * spk S F i 1 = y * spk S F i 1 := by
      by_cases q : 1 < tabs S i
      · rw [f1 q]
      · rw [sp 1 q]; simp
    have g2 : f (tki S i 2) * spk S F i 2 = z * spk S F i 2 := by
      by_cases q : 2 < tabs S i
      · rw [f2 q]
      · rw [sp 2 q]; simp
    rw [off_3 hp h3, f0, g1, g2]
/-- every entry is met -/
theorem ent_b (hp : ∀ i, 0 < i → cpa S i < i) {i : Nat} {f : Nat → Nat} (h3 : tabs S i ≤ 3) (hf : ∀ t, onc S i t = true → ¬ tb S t = 0 → f t < mo S t) : ∃ x y z, x < lim S i 0 ∧ y < lim S i 1 ∧ z < lim S i 2 ∧ off S F f 1 i = x * spk S F i 0 + y * spk S F i 1 + z * spk S F i 2 := by
  have w : ∀ k, ∃ x, x < lim S i k ∧ f (tki S i k) * spk S F i k = x * spk S F i k := by
    intro k
    by_cases q : k < tabs S i
    · have o := tout_ok hp i (tabs S i - 1 - k) (by omega)
      refine ⟨f (tki S i k), ?_, rfl⟩
      unfold lim
      rw [if_pos q]
      exact hf _ o.2.2.2 o.2.2.1
    · refine ⟨0, ?_, ?_⟩
      · unfold lim; rw [if_neg q]; decide
      · unfold spk; rw [if_neg q]; simp
  obtain ⟨x, x1, x2⟩ := w 0
  obtain ⟨y, y1, y2⟩ := w 1
  obtain ⟨z, z1, z2⟩ := w 2
  exact ⟨x, y, z, x1, y1, z1, by rw [off_3 hp h3, x2, y2, z2]⟩
end ModH
/-! the bytes so far -/
section ModI
variable {S : sg} {U : Nat → Nat}
def bGD (T B : Nat → Int32) : Prop := ∀ k, k < 20000 → B k = T k ∨ B k = 0
def bLE (T A B : Nat → Int32) : Prop := ∀ k, A k = T k → B k = T k
theorem bLE.rf {T A : Nat → Int32} : bLE T A A := fun _ h => h
theorem bLE.trans {T A B C : Nat → Int32} (p : bLE T A B) (q : bLE T B C) : bLE T A C := fun k h => q k (p k h)
theorem wri_ok {T A : Nat → Int32} {i p : Nat} (hp : p + byi S i ≤ 20000) (hA : bGD T A) (h : ∀ o, o < byi S i → T (p + o) = ibt S i o) : bGD T (wri S i p A) ∧ bLE T A (wri S i p A) ∧ ∀ o, o < byi S i → wri S i p A (p + o) = T (p + o) := by
  have key : ∀ k, (wri S i p A k = A k ∧ (p ≤ k ∧ k < p + byi S i → T k = 0)) ∨ (wri S i p A k = T k) := by
    intro k
    by_cases q : p ≤ k ∧ k < p + byi S i
    · have e := h (k - p) (by omega)
      rw [show p + (k - p) = k by omega] at e
      unfold wri
      by_cases c : 9 ≤ us S i
      · rw [if_pos c]
        refine Or.inl ⟨rfl, fun _ => ?_⟩
        rw [e]
        unfold ibt
        rw [if_neg (by omega), if_neg (by omega), if_neg (by omega), if_neg (by omega), if_neg (by omega), if_neg (by omega), if_neg (by omega), if_neg (by omega)]
      · rw [if_neg c]
        right
        unfold wr
        rw [if_pos (by omega), e]
    · left
      refine ⟨?_, fun z => absurd z q⟩
      unfold wri
      split
      · rfl
      · unfold wr
        rw [if_neg (by omega)]
  refine ⟨fun k hk => ?_, fun k hk => ?_, fun o ho => ?_⟩
  · rcases key k with ⟨e, -⟩ | e
    · rw [e]; exact hA k hk
    · exact Or.inl e
  · rcases key k with ⟨e, -⟩ | e
    · rw [e]; exact hk
    · exact e
  · rcases key (p + o) with ⟨e, z⟩ | e
    · have z0 := z ⟨by omega, by omega⟩
      rcases hA (p + o) (by omega) with w | w
      · rw [e]; exact w
      · rw [e, w, z0]
    · exact e
end ModI
