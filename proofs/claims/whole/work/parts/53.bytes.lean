/-! the bytes of all entries -/
/-- how far the entries f of the tables lead, from the item outwards to lo -/
def offF (S : sg) (F : lm) (f : Nat → Nat) (lo : Nat) : Nat → Nat → Nat
  | 0, _ => 0
  | n + 1, i => if i = 0 ∨ i < lo then 0 else (if tb S i = 0 then 0 else f i * F 2 i) + offF S F f lo n (cpa S i)
def off (S : sg) (F : lm) (f : Nat → Nat) (lo i : Nat) : Nat := offF S F f lo (i + 1) i
/-- it has bytes of its own: an item that isn't a group -/
def own (S : sg) (i : Nat) : Bool := lies S i && ! lent S i && ! decide (us S i = 0)
/-- the first entries -/
def fst1 (S : sg) (F : lm) (ib : Nat → Nat → Int32) : Nat → Nat → Int32
  | 0, _ => 0
  | j + 1, k => if own S (j + 1) = true ∧ F 0 (j + 1) ≤ k ∧ k < F 0 (j + 1) + byi S (j + 1) then ib (j + 1) (k - F 0 (j + 1)) else fst1 S F ib j k
/-- the bytes at p, s of them, m times -/
def rep (p s m : Nat) (A : Nat → Int32) (k : Nat) : Int32 := if p ≤ k ∧ k < p + m * s then A (p + (k - p) % s) else A k
def rpt1 (S : sg) (F : lm) (t : Nat) (A : Nat → Int32) : Nat → Int32 := if ¬ tb S t = 0 ∧ lent S t = false then rep (F 0 t) (F 2 t) (mo S t) A else A
def rps (S : sg) (F : lm) : Nat → (Nat → Int32) → (Nat → Int32)
  | 0, A => A
  | t + 1, A => rps S F t (rpt1 S F (t + 1) A)
/-- all bytes, as they are first -/
def byA (S : sg) (F : lm) (ib : Nat → Nat → Int32) : Nat → Int32 := rps S F (sN S) (fst1 S F ib (sN S))
section Byt1
variable {S : sg} {U : Nat → Nat} {F : lm}
theorem offF_more (hp : ∀ i, 0 < i → cpa S i < i) {f : Nat → Nat} {lo : Nat} : ∀ n m i, i < n → i < m → offF S F f lo n i = offF S F f lo m i := by
  intro n
  induction n with
  | zero => intro m i h; omega
  | succ n ih =>
    intro m i h1 h2
    cases m with
    | zero => omega
    | succ m =>
      by_cases h0 : i = 0 ∨ i < lo
      · simp only [offF, if_pos h0]
      · have := hp i (by omega)
        simp only [offF, if_neg h0]
        rw [ih m (cpa S i) (by omega) (by omega)]
theorem off_lo {f : Nat → Nat} {lo i : Nat} (h : i = 0 ∨ i < lo) : off S F f lo i = 0 := by
  unfold off
  simp only [offF, if_pos h]
theorem off_step (hp : ∀ i, 0 < i → cpa S i < i) {f : Nat → Nat} {lo i : Nat} (h0 : 0 < i) (h : lo ≤ i) : off S F f lo i = (if tb S i = 0 then 0 else f i * F 2 i) + off S F f lo (cpa S i) := by
  unfold off
  have := hp i h0
  have e : offF S F f lo (i + 1) i = (if tb S i = 0 then 0 else f i * F 2 i) + offF S F f lo i (cpa S i) := by
    show (if _ then _ else _) = _
    rw [if_neg (by omega)]
  rw [e, offF_more hp i (cpa S i + 1) (cpa S i) (by omega) (by omega)]
theorem off_congr (hp : ∀ i, 0 < i → cpa S i < i) {f f' : Nat → Nat} {lo : Nat} (h : ∀ t, lo ≤ t → f t = f' t) : ∀ i, off S F f lo i = off S F f' lo i := by
  intro i
  induction i using Nat.strongRecOn with
  | _ i ih =>
    by_cases h0 : i = 0 ∨ i < lo
    · rw [off_lo h0, off_lo h0]
    · rw [off_step (f := f) (i := i) hp (by omega) (by omega), off_step (f := f') (i := i) hp (by omega) (by omega), h i (by omega), ih _ (hp i (by omega))]
/-- one more table: the one at t, if it is on the way -/
theorem off_one (hp : ∀ i, 0 < i → cpa S i < i) {f : Nat → Nat} {t : Nat} (ht : 1 ≤ t) : ∀ i, off S F f t i = off S F f (t + 1) i + (if onc S i t = true ∧ ¬ tb S t = 0 then f t * F 2 t else 0) := by
  intro i
  induction i using Nat.strongRecOn with
  | _ i ih =>
    by_cases h0 : i = 0 ∨ i < t
    · have hn : ¬ (onc S i t = true ∧ ¬ tb S t = 0) := fun q => by have := onc_le hp _ _ q.1; omega
      rw [off_lo h0, off_lo (by omega), if_neg hn]
    · by_cases e : i = t
      · subst e
        rw [off_step hp (by omega) (Nat.le_refl _), off_lo (i := i) (lo := i + 1) (by omega), off_lo (i := cpa S i) (lo := i) (by have := hp i (by omega); omega), onc_self hp (by omega)]
        by_cases q : tb S i = 0
        · rw [if_pos q, if_neg (by omega)]
        · rw [if_neg q, if_pos ⟨rfl, q⟩]; omega
      · rw [off_step (lo := t) (i := i) hp (by omega) (by omega), off_step (lo := t + 1) (i := i) hp (by omega) (by omega), ih _ (hp i (by omega))]
        have eo : onc S i t = onc S (cpa S i) t := by
          rw [onc_step hp (by omega), decide_eq_false e]; rfl
        rw [eo]; omega
/-- wherever the entries lead, it is within what is around -/
theorem off_in (W : WB S U) (ok : fwr S U true = 0) {f : Nat → Nat} : ∀ i a, i ≤ sN S → lies S i = true → onc S i a = true → (∀ t, onc S i t = true → ¬ tb S t = 0 → f t < mo S t) → mfin S U true 0 a ≤ mfin S U true 0 i ∧ mfin S U true 0 i + off S (mfin S U true) f a i + (mfin S U true 1 i - mfin S U true 0 i) ≤ mfin S U true 0 a + xtn S (mfin S U true) a := by
  intro i
  induction i using Nat.strongRecOn with
  | _ i ih =>
    intro a h2 hl ha hf
    have la := onc_le W.p _ _ ha
    have h1 : 1 ≤ i := by omega
    have own1 : mfin S U true 0 i + (if tb S i = 0 then 0 else f i * mfin S U true 2 i) + (mfin S U true 1 i - mfin S U true 0 i) ≤ mfin S U true 0 i + xtn S (mfin S U true) i := by
      have hx := xtn_exf W h1 h2 hl
      by_cases q : tb S i = 0
      · rw [if_pos q]
        unfold xtn
        rw [if_pos q]; omega
      · rw [if_neg q]
        have hs := hx.2 q
        have hr := (rup_ge (n := mfin S U true 1 i - mfin S U true 0 i) (u := U i) (W.u i).le.1).1
        have hlt := hf i (onc_self W.p h1) q
        have hr' : mfin S U true 1 i - mfin S U true 0 i ≤ mfin S U true 2 i := by rw [hs]; exact hr
        have hm : (f i + 1) * mfin S U true 2 i ≤ mo S i * mfin S U true 2 i := Nat.mul_le_mul_right _ hlt
        rw [Nat.add_mul, Nat.one_mul] at hm
        unfold xtn
        rw [if_neg q]
        omega
    by_cases e : a = i
    · subst e
      rw [off_step W.p h1 (Nat.le_refl _), off_lo (i := cpa S a) (by have := W.p a (by omega); omega)]
      exact ⟨Nat.le_refl _, by omega⟩
    · have hb : onc S (cpa S i) a = true := by
        rcases onc_or W.p ha with q | q
        · exact absurd q e
        · exact q
      have hc : ¬ cpa S i = 0 := fun q => by rw [q] at hb; cases hb
      have lp := (W.ch h1 h2 hl hc).1
      have pi := W.p i (by omega)
      have := ih _ pi a (by omega) lp hb (fun t ht q => hf t (onc_up W.p (by omega) ht) q)
      have g := g_in W ok h1 h2 hl hc
      have ll := (len_xtn W (i := cpa S i) (by omega) (by omega) lp).1
      rw [off_step W.p h1 (by omega)]
      omega
theorem own_l {i : Nat} (h : own S i = true) : lies S i = true ∧ lent S i = false ∧ ¬ us S i = 0 := by
  unfold own at h
  rw [Bool.and_eq_true, Bool.and_eq_true] at h
  refine ⟨h.1.1, ?_, ?_⟩
  · have := h.1.2; simpa using this
  · have := h.2; simpa using this
theorem chain_gap (hp : ∀ i, 0 < i → cpa S i < i) {t : Nat} (ht : 1 ≤ t) : ∀ i, t < i → onc S i t = false → ∃ q, onc S i q = true ∧ t < q ∧ cpa S q < t := by
  intro i
  induction i using Nat.strongRecOn with
  | _ i ih =>
    intro h1 h2
    have pi := hp i (by omega)
    have hn := onc_no hp (by omega) h2
    by_cases q : cpa S i < t
    · exact ⟨i, onc_self hp (by omega), h1, q⟩
    · have hne : ¬ cpa S i = t := fun e => by
        rw [e, onc_self hp (by omega)] at hn
        cases hn.2
      obtain ⟨r, r1, r2, r3⟩ := ih _ pi (by omega) hn.2
      exact ⟨r, onc_up hp (by omega) r1, r2, r3⟩
theorem off_gap (hp : ∀ i, 0 < i → cpa S i < i) {f : Nat → Nat} {t q : Nat} (h2 : t < q) (h3 : cpa S q < t) : ∀ i, onc S i q = true → off S F f (t + 1) i = off S F f q i := by
  intro i
  induction i using Nat.strongRecOn with
  | _ i ih =>
    intro h1
    have l := onc_le hp _ _ h1
    rw [off_step (lo := t + 1) (i := i) hp (by omega) (by omega), off_step (lo := q) (i := i) hp (by omega) (by omega)]
    rcases onc_or hp h1 with e | e
    · rw [← e, off_lo (i := cpa S q) (lo := t + 1) (by omega), off_lo (i := cpa S q) (lo := q) (by omega)]
    · rw [ih _ (hp i (by omega)) e]
theorem lent_onc (hp : ∀ i, 0 < i → cpa S i < i) : ∀ i q, lent S i = false → onc S i q = true → lent S q = false := by
  intro i
  induction i using Nat.strongRecOn with
  | _ i ih =>
    intro q h hq
    have l := onc_le hp _ _ hq
    rcases onc_or hp hq with e | e
    · rw [e]; exact h
    · exact ih _ (hp i (by omega)) q (lent_up hp (by omega) h).1 e
theorem lies_onc (W : WB S U) : ∀ i q, i ≤ sN S → lies S i = true → onc S i q = true → lies S q = true := by
  intro i
  induction i using Nat.strongRecOn with
  | _ i ih =>
    intro q h2 h hq
    have l := onc_le W.p _ _ hq
    rcases onc_or W.p hq with e | e
    · rw [e]; exact h
    · have hc : ¬ cpa S i = 0 := fun z => by rw [z] at e; cases e
      have := W.p i (by omega)
      exact ih _ this q (by omega) (W.ch (by omega) h2 h hc).1 e
theorem elem_no (W : WB S U) {i : Nat} (hu : ¬ us S i = 0) : ∀ t, t ≤ sN S → lies S t = true → onc S t i = true → t = i := by
  intro t
  induction t using Nat.strongRecOn with
  | _ t ih =>
    intro h2 hl h
    have l := onc_le W.p _ _ h
    rcases onc_or W.p h with e | e
    · exact e.symm
    · have hc : ¬ cpa S t = 0 := fun z => by rw [z] at e; cases e
      have := W.p t (by omega)
      have w := W.ch (by omega) h2 hl hc
      have := ih _ this (by omega) w.1 e
      rw [this] at w
      exact absurd w.2.1 hu
/-- a table that an item isn't in has none of its bytes -/
theorem nin (W : WB S U) (ok : fwr S U true = 0) {f : Nat → Nat} {i t o : Nat} (h1 : 1 ≤ i) (h2 : i ≤ sN S) (hi : own S i = true) (g1 : 1 ≤ t) (g2 : t ≤ sN S) (lt : lies S t = true) (ot' : lent S t = false) (hn : onc S i t = false) (hf : ∀ t, onc S i t = true → ¬ tb S t = 0 → f t < mo S t) (ho : o < byi S i) : ¬ (mfin S U true 0 t ≤ mfin S U true 0 i + off S (mfin S U true) f (t + 1) i + o ∧ mfin S U true 0 i + off S (mfin S U true) f (t + 1) i + o < mfin S U true 0 t + xtn S (mfin S U true) t) := by
  obtain ⟨li, oi, ui⟩ := own_l hi
  have lb' := len_xtn W h1 h2 li
  intro hh
  by_cases c : t < i
  · obtain ⟨q, q1, q2, q3⟩ := chain_gap W.p g1 i c hn
    have lq := onc_le W.p _ _ q1
    have hq := off_in W ok i q h2 li q1 hf
    have nq : onc S q t = false := by
      cases z : onc S q t with
      | false => rfl
      | true => rw [onc_trans W.p _ _ _ q1 z] at hn; cases hn
    have g := g_ord W ok (t + q) t q (Nat.le_refl _) g1 q2 (by omega) lt (lies_onc W i q h2 li q1) (lent_aside W.p _ ot') (lent_aside W.p _ (lent_onc W.p i q oi q1)) (Or.inr (lent_onc W.p i q oi q1)) nq
    omega
  · have hne : ¬ t = i := fun e => by rw [e, onc_self W.p (by omega)] at hn; cases hn
    have nt : onc S t i = false := by
      cases z : onc S t i with
      | false => rfl
      | true => exact absurd (elem_no W ui t g2 lt z) hne
    have g := g_ord W ok (i + t) i t (Nat.le_refl _) h1 (by omega) g2 li lt (lent_aside W.p _ oi) (lent_aside W.p _ ot') (Or.inr ot') nt
    rw [off_lo (i := i) (lo := t + 1) (by omega)] at hh
    omega
/-- what A holds: entries of the tables from t on -/
def PR (S : sg) (U : Nat → Nat) (ib : Nat → Nat → Int32) (t : Nat) (A : Nat → Int32) : Prop := (∀ i f o, 1 ≤ i → i ≤ sN S → own S i = true → (∀ t, onc S i t = true → ¬ tb S t = 0 → f t < mo S t) → o < byi S i → A (mfin S U true 0 i + off S (mfin S U true) f t i + o) = ib i o) ∧
  (∀ k, ¬ A k = 0 → ∃ i f o, 1 ≤ i ∧ i ≤ sN S ∧ own S i = true ∧ (∀ t, onc S i t = true → ¬ tb S t = 0 → f t < mo S t) ∧ o < byi S i ∧ k = mfin S U true 0 i + off S (mfin S U true) f t i + o)
theorem fst1_at (W : WB S U) (ok : fwr S U true = 0) {ib : Nat → Nat → Int32} : ∀ j, j ≤ sN S → (∀ i o, 1 ≤ i → i ≤ j → own S i = true → o < byi S i → fst1 S (mfin S U true) ib j (mfin S U true 0 i + o) = ib i o) ∧ (∀ k, ¬ fst1 S (mfin S U true) ib j k = 0 → ∃ i o, 1 ≤ i ∧ i ≤ j ∧ own S i = true ∧ o < byi S i ∧ k = mfin S U true 0 i + o) := by
  intro j
  induction j with
  | zero => intro _; exact ⟨fun i o a b => by omega, fun k h => absurd rfl h⟩
  | succ j ih =>
    intro hj
    obtain ⟨i1, i2⟩ := ih (by omega)
    constructor
    · intro i o a b hi ho
      unfold fst1
      by_cases e : i = j + 1
      · subst e
        rw [if_pos ⟨hi, by omega, by omega⟩]
        congr 1; omega
      · obtain ⟨li, oi, ui⟩ := own_l hi
        rw [if_neg]
        · exact i1 i o a (by omega) hi ho
        · rintro ⟨q1, q2, q3⟩
          obtain ⟨lj, oj, uj⟩ := own_l q1
          have nt : onc S (j + 1) i = false := by
            cases z : onc S (j + 1) i with
            | false => rfl
            | true => have := elem_no W ui (j + 1) hj lj z; omega
          have g := g_ord W ok (i + (j + 1)) i (j + 1) (Nat.le_refl _) a (by omega) hj li lj (lent_aside W.p _ oi) (lent_aside W.p _ oj) (Or.inr oj) nt
          have := len_xtn W a (by omega) li
          omega
    · intro k hk
      unfold fst1 at hk
      by_cases q : own S (j + 1) = true ∧ mfin S U true 0 (j + 1) ≤ k ∧ k < mfin S U true 0 (j + 1) + byi S (j + 1)
      · exact ⟨j + 1, k - mfin S U true 0 (j + 1), by omega, Nat.le_refl _, q.1, by omega, by omega⟩
      · rw [if_neg q] at hk
        obtain ⟨i, o, a, b, c⟩ := i2 k hk
        exact ⟨i, o, a, by omega, c⟩
theorem PR.step (W : WB S U) (ok : fwr S U true = 0) {ib : Nat → Nat → Int32} {t : Nat} {A : Nat → Int32} (g1 : 1 ≤ t) (g2 : t ≤ sN S) (H : PR S U ib (t + 1) A) : PR S U ib t (rpt1 S (mfin S U true) t A) := by
  obtain ⟨p1, p2⟩ := H
  by_cases own' : ¬ tb S t = 0 ∧ lent S t = false
  · obtain ⟨ht, hl⟩ := own'
    have lt : lies S t = true := by
      have := (W.tm ht)
      unfold lies
      rw [decide_eq_true (by omega : lv S t < 50)]; rfl
    have hx : xtn S (mfin S U true) t = mo S t * mfin S U true 2 t := by unfold xtn; rw [if_neg ht]
    have e : rpt1 S (mfin S U true) t A = rep (mfin S U true 0 t) (mfin S U true 2 t) (mo S t) A := if_pos ⟨ht, hl⟩
    rw [e]
    have hstr : mfin S U true 1 t - mfin S U true 0 t ≤ mfin S U true 2 t := by
      rw [(xtn_exf W g1 g2 lt).2 ht]
      exact (rup_ge (W.u t).le.1).1
    constructor
    · intro i f o a b hi hf ho
      obtain ⟨li, oi, ui⟩ := own_l hi
      have lb' := len_xtn W a b li
      cases z : onc S i t with
      | true =>
        obtain ⟨m, hm⟩ : ∃ m, mo S t = m + 1 := ⟨mo S t - 1, by have := (W.tm ht).1; omega⟩
        have e0 : off S (mfin S U true) f t i = off S (mfin S U true) f (t + 1) i + f t * mfin S U true 2 t := by rw [off_one W.p g1, if_pos ⟨z, ht⟩]
        have hin := (off_in W ok i t b li z hf).1
        have ft := hf t z ht
        -- one entry
        have one : mfin S U true 0 i + off S (mfin S U true) f (t + 1) i + o < mfin S U true 0 t + mfin S U true 2 t := by
          have q := (off_in W ok i t b li z (f := fun u => if u = t then m else f u) (fun u hu q2 => by
            show (if _ then _ else _) < _
            split
            · rename_i eu; rw [eu, hm]; exact Nat.lt_succ_self m
            · exact hf u hu q2)).2
          rw [off_one W.p g1, if_pos ⟨z, ht⟩, hx, hm, off_congr W.p (f := fun u => if u = t then m else f u) (f' := f) (lo := t + 1) (fun u hu => if_neg (by omega)) i, Nat.add_mul, Nat.one_mul] at q
          simp only [if_true] at q
          clear hx hstr hin ft e0 hf
          omega
        have e5 : (f t + 1) * mfin S U true 2 t ≤ mo S t * mfin S U true 2 t := Nat.mul_le_mul_right _ ft
        rw [Nat.add_mul, Nat.one_mul] at e5
        have e4 : mfin S U true 0 i + off S (mfin S U true) f t i + o - mfin S U true 0 t = (mfin S U true 0 i + off S (mfin S U true) f (t + 1) i + o - mfin S U true 0 t) + f t * mfin S U true 2 t := by
          rw [e0]; clear hx hstr e5 one lb'; omega
        have e7 : mfin S U true 0 t ≤ mfin S U true 0 i + off S (mfin S U true) f t i + o := by clear hx hstr e5 one lb' e4 e0; omega
        have e8 : mfin S U true 0 i + off S (mfin S U true) f t i + o < mfin S U true 0 t + mo S t * mfin S U true 2 t := by
          rw [e0]; clear hx hstr lb' e4 e7; omega
        have e9 : mfin S U true 0 i + off S (mfin S U true) f (t + 1) i + o - mfin S U true 0 t < mfin S U true 2 t := by clear hx hstr lb' e4 e7 e8 e5 e0; omega
        have e6 : mfin S U true 0 t + (mfin S U true 0 i + off S (mfin S U true) f (t + 1) i + o - mfin S U true 0 t) = mfin S U true 0 i + off S (mfin S U true) f (t + 1) i + o := by clear hx hstr lb' e4 e7 e8 e5 e0 e9; omega
        unfold rep
        rw [if_pos ⟨e7, e8⟩, e4, Nat.add_mul_mod_self_right, Nat.mod_eq_of_lt e9, e6]
        exact p1 i f o a b hi hf ho
      | false =>
        have e0 : off S (mfin S U true) f t i = off S (mfin S U true) f (t + 1) i := by rw [off_one W.p g1, if_neg (fun q => by rw [z] at q; cases q.1), Nat.add_zero]
        have := nin W ok a b hi g1 g2 lt hl z hf ho
        rw [hx] at this
        unfold rep
        rw [e0, if_neg this]
        exact p1 i f o a b hi hf ho
    · intro k hk
      unfold rep at hk
      by_cases q : mfin S U true 0 t ≤ k ∧ k < mfin S U true 0 t + mo S t * mfin S U true 2 t
      · rw [if_pos q] at hk
        obtain ⟨i, f, o, a, b, hi, hf, ho, e2⟩ := p2 _ hk
        have hs0 : 0 < mfin S U true 2 t := by
          cases hz : mfin S U true 2 t with
          | zero => rw [hz] at q; omega
          | succ n => omega
        have hm := Nat.mod_lt (k - mfin S U true 0 t) hs0
        have hd := Nat.div_add_mod (k - mfin S U true 0 t) (mfin S U true 2 t)
        have hq : (k - mfin S U true 0 t) / mfin S U true 2 t < mo S t := Nat.div_lt_of_lt_mul (by rw [Nat.mul_comm]; omega)
        have z : onc S i t = true := by
          cases z : onc S i t with
          | true => rfl
          | false =>
            exfalso
            have nn := nin W ok a b hi g1 g2 lt hl z hf ho
            rw [← e2, hx] at nn
            have : mfin S U true 2 t ≤ mo S t * mfin S U true 2 t := Nat.le_mul_of_pos_left _ (by have := (W.tm ht).1; omega)
            omega
        refine ⟨i, fun u => if u = t then (k - mfin S U true 0 t) / mfin S U true 2 t else f u, o, a, b, hi, fun u hu q2 => ?_, ho, ?_⟩
        · show (if _ then _ else _) < _
          split
          · rename_i eu; rw [eu]; exact hq
          · exact hf u hu q2
        · rw [off_one W.p g1, if_pos ⟨z, ht⟩, off_congr W.p (f := fun u => if u = t then (k - mfin S U true 0 t) / mfin S U true 2 t else f u) (f' := f) (lo := t + 1) (fun u hu => if_neg (by omega)) i]
          simp only [if_true]
          rw [Nat.mul_comm] at hd
          clear hx hstr hs0 hq hm
          omega
      · rw [if_neg q] at hk
        obtain ⟨i, f, o, a, b, hi, hf, ho, e2⟩ := p2 _ hk
        refine ⟨i, fun u => if u = t then 0 else f u, o, a, b, hi, fun u hu q2 => ?_, ho, ?_⟩
        · show (if _ then _ else _) < _
          split
          · have := (W.tm q2).1; omega
          · exact hf u hu q2
        · rw [off_one W.p g1, off_congr W.p (f := fun u => if u = t then 0 else f u) (f' := f) (lo := t + 1) (fun u hu => if_neg (by omega)) i]
          simp only [if_true, Nat.zero_mul, ite_self, Nat.add_zero]
          exact e2
  · have e : rpt1 S (mfin S U true) t A = A := if_neg own'
    rw [e]
    have nt : ∀ i f, own S i = true → off S (mfin S U true) f t i = off S (mfin S U true) f (t + 1) i := fun i f hi => by
      rw [off_one W.p g1, if_neg, Nat.add_zero]
      rintro ⟨q1, q2⟩
      exact own' ⟨q2, lent_onc W.p i t (own_l hi).2.1 q1⟩
    constructor
    · intro i f o a b hi hf ho
      rw [nt i f hi]
      exact p1 i f o a b hi hf ho
    · intro k hk
      obtain ⟨i, f, o, a, b, hi, hf, ho, e2⟩ := p2 _ hk
      exact ⟨i, f, o, a, b, hi, hf, ho, by rw [nt i f hi]; exact e2⟩
theorem PR.all (W : WB S U) (ok : fwr S U true = 0) {ib : Nat → Nat → Int32} : ∀ t A, t ≤ sN S → PR S U ib (t + 1) A → PR S U ib 1 (rps S (mfin S U true) t A) := by
  intro t
  induction t with
  | zero => intro A _ H; exact H
  | succ t ih => intro A ht H; exact ih _ (by omega) (PR.step W ok (by omega) ht H)
theorem PR.al (W : WB S U) (ok : fwr S U true = 0) {ib : Nat → Nat → Int32} : PR S U ib 1 (byA S (mfin S U true) ib) := by
  refine PR.all W ok _ _ (Nat.le_refl _) ?_
  obtain ⟨q1, q2⟩ := fst1_at W ok (ib := ib) (sN S) (Nat.le_refl _)
  constructor
  · intro i f o a b hi _ ho
    rw [off_lo (i := i) (lo := sN S + 1) (by omega), Nat.add_zero]
    exact q1 i o a b hi ho
  · intro k hk
    obtain ⟨i, o, a, b, hi, ho, e⟩ := q2 k hk
    refine ⟨i, fun _ => 0, o, a, b, hi, fun t _ q => (W.tm q).1, ho, ?_⟩
    rw [off_lo (i := i) (lo := sN S + 1) (by omega), Nat.add_zero]
    exact e
end Byt1
