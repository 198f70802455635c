/-! contracts: Item's methods -/
def jb (b : Bool) : Int32 := if b then 1 else 0
theorem jb_t : jb true = 1 := rfl
theorem jb_f : jb false = 0 := rfl
theorem jb_01 (b : Bool) : jb b = 0 ∨ jb b = 1 := by cases b <;> simp [jb]
theorem jb_0 {b : Bool} : jb b = 0 ↔ b = false := by cases b <;> decide
/-- i is below j -/
def bel (S : sg) (i j : Nat) : Bool := chk (cpa S) (fun k => decide (k = j)) (cpa S i)
/-- i redefines, or lies in one that does -/
def aside (S : sg) (i : Nat) : Bool := chk (cpa S) (fun k => decide (ot S k ≠ 0)) i
/-- tables from i outwards, itself included -/
def tabs (S : sg) (i : Nat) : Nat := chn (cpa S) (fun k => decide (tb S k ≠ 0)) i
section Item1
variable {g : jg} {h : jh} {S : sg} {tr rw : Nat} {ad : Nat → Nat} {Q : jq} {k n : Nat}
theorem c_isBelow (R : RTree h S tr rw ad) {i j : Nat} (hi1 : 1 ≤ i) (hi2 : i ≤ sN S) (hj : j ≤ sN S) (hQ : Q (.inl (some (.inl (jb (bel S i j))))) h) : jM g mX0_isBelow [.inr (.inr (some (ad i))), .inr (.inr (rO ad j))] h 0 0 Q := by
  have loop : ∀ p, p ≤ sN S → Q (.inl (some (.inl (jb (chk (cpa S) (fun k => decide (k = j)) p))))) h → jG g mX0_isBelow 5 [(1, .inr (.inr (rO ad j))), (2, .inr (.inr (rO ad p)))] [] h 0 0 Q := by
    intro p
    induction p using Nat.strongRecOn with
    | _ p ih =>
      intro hp hq
      refine vX0_isBelow_5 ⟨fun c => ?_, fun c => ⟨fun c2 => ?_, fun c2 => ?_⟩⟩
      · rw [rO_none] at c
        subst c
        exact hq
      · rw [rO_none] at c
        have hr := R.i (i := p) (by omega) hp
        rw [chk_step R.cp (by omega)] at hq
        rw [rO_jd c]
        rw [R.rO_inj hp hj] at c2
        refine ⟨hr.2.1, ?_⟩
        have e := hr.2.2.2.2.2.2.2.1
        rw [e]
        exact ih (cpa S p) (R.cp p (by omega)) (by have := R.cp p (by omega); omega) (by simpa [c2] using hq)
      · rw [rO_none] at c
        rw [R.rO_inj hp hj] at c2
        rw [chk_step R.cp (by omega)] at hq
        simpa [c2, jb] using hq
  have hr := R.i hi1 hi2
  refine eX0_isBelow ⟨hr.2.1, ?_⟩
  rw [hr.2.2.2.2.2.2.2.1]
  exact loop _ (by have := R.cp i (by omega); omega) hQ
theorem c_aside (R : RTree h S tr rw ad) {i : Nat} (hi1 : 1 ≤ i) (hi2 : i ≤ sN S) (hQ : Q (.inl (some (.inl (jb (aside S i))))) h) : jM g mX0_liesInRedefining [.inr (.inr (some (ad i)))] h 0 0 Q := by
  have loop : ∀ p, p ≤ sN S → Q (.inl (some (.inl (jb (aside S p))))) h → jG g mX0_liesInRedefining 2 [(1, .inr (.inr (rO ad p)))] [] h 0 0 Q := by
    intro p
    induction p using Nat.strongRecOn with
    | _ p ih =>
      intro hp hq
      refine vX0_liesInRedefining_2 ⟨fun c => ?_, fun c => ?_⟩
      · rw [rO_none] at c
        subst c
        exact hq
      · rw [rO_none] at c
        have hr := R.i (i := p) (by omega) hp
        unfold aside at hq
        rw [chk_step R.cp (by omega)] at hq
        rw [rO_jd c]
        have e1 := hr.2.2.2.2.2.2.2.1
        have e2 := hr.2.2.2.2.2.2.2.2.2.2.2.2.2.2.2.2.2.2.1
        rw [e1, e2, rO_none]
        refine ⟨hr.2.1, fun c2 => ?_, fun c2 => ?_⟩
        · exact ih (cpa S p) (R.cp p (by omega)) (by have := R.cp p (by omega); omega) (by simpa [c2, aside] using hq)
        · simpa [c2, jb] using hq
  refine eX0_liesInRedefining ?_
  show jG _ _ _ _ _ _ _ _ _
  rw [← rO_some (ad := ad) (show ¬ i = 0 by omega)]
  exact loop i hi2 hQ
theorem RT.nn (R : RTree h S tr rw ad) {i : Nat} (hi1 : 1 ≤ i) (hi2 : i ≤ sN S) : jr h 10 (ad i) = none ↔ tb S i = 0 := by
  constructor
  · intro e
    by_cases h0 : tb S i = 0
    · exact h0
    · obtain ⟨t, ht, -⟩ := (R.t hi1 hi2).2 h0
      rw [ht] at e
      cases e
  · exact (R.t hi1 hi2).1
theorem c_tabs (R : RTree h S tr rw ad) {i : Nat} (hi1 : 1 ≤ i) (hi2 : i ≤ sN S) (hQ : Q (.inl (some (.inl (nI (tabs S i))))) h) : jM g mX0_tablesWithin [.inr (.inr (some (ad i)))] h 0 0 Q := by
  have loop : ∀ p a, p ≤ sN S → Q (.inl (some (.inl (nI (a + tabs S p))))) h → jG g mX0_tablesWithin 4 [(1, .inl (nI a)), (2, .inr (.inr (rO ad p)))] [] h 0 0 Q := by
    intro p
    induction p using Nat.strongRecOn with
    | _ p ih =>
      intro a hp hq
      refine vX0_tablesWithin_4 ⟨fun c => ?_, fun c => ?_⟩
      · rw [rO_none] at c
        subst c
        exact hq
      · rw [rO_none] at c
        have hr := R.i (i := p) (by omega) hp
        unfold tabs at hq
        rw [chn_step R.cp (by omega)] at hq
        rw [rO_jd c]
        have e1 := hr.2.2.2.2.2.2.2.1
        rw [e1, RT.nn R (by omega) hp, nI_1]
        refine ⟨hr.2.1, fun c2 => ?_, fun c2 => ?_⟩
        · exact ih (cpa S p) (R.cp p (by omega)) a (by have := R.cp p (by omega); omega) (by simpa [c2, tabs] using hq)
        · exact ih (cpa S p) (R.cp p (by omega)) (a + 1) (by have := R.cp p (by omega); omega) (by simpa [c2, tabs, Nat.add_assoc] using hq)
  refine eX0_tablesWithin ?_
  show jG _ _ _ _ _ _ _ _ _
  rw [← rO_some (ad := ad) (show ¬ i = 0 by omega)]
  exact loop i 0 hi2 (by rw [Nat.zero_add]; exact hQ)
/-- the item whose table it is, with so many tables inside it, from i outwards; 0: none -/
def toutF (S : sg) : Nat → Nat → Nat → Nat
  | 0, _, _ => 0
  | f + 1, a, i => if i = 0 then 0 else if tb S i = 0 then toutF S f a (cpa S i) else if a = 0 then i else toutF S f (a - 1) (cpa S i)
def tout (S : sg) (a i : Nat) : Nat := toutF S (i + 1) a i
theorem toutF_more (hp : ∀ i, 0 < i → cpa S i < i) : ∀ f m a i, i < f → i < m → toutF S f a i = toutF S m a i := by
  intro f
  induction f with
  | zero => intro m a i hh; omega
  | succ f ih =>
    intro m a i h1 h2
    cases m with
    | zero => omega
    | succ m =>
      by_cases h0 : i = 0
      · simp [toutF, h0]
      · have := hp i (by omega)
        simp only [toutF, if_neg h0]
        rw [ih m a (cpa S i) (by omega) (by omega), ih m (a - 1) (cpa S i) (by omega) (by omega)]
theorem tout_step (hp : ∀ i, 0 < i → cpa S i < i) {a i : Nat} (hi : 0 < i) : tout S a i = if tb S i = 0 then tout S a (cpa S i) else if a = 0 then i else tout S (a - 1) (cpa S i) := by
  unfold tout
  have h0 : ¬ i = 0 := by omega
  have h1 := hp i hi
  show (if i = 0 then 0 else if tb S i = 0 then toutF S i a (cpa S i) else if a = 0 then i else toutF S i (a - 1) (cpa S i)) = _
  rw [if_neg h0, toutF_more hp i (cpa S i + 1) a (cpa S i) h1 (by omega), toutF_more hp i (cpa S i + 1) (a - 1) (cpa S i) h1 (by omega)]
theorem c_tout (R : RTree h S tr rw ad) {i a : Nat} (hi1 : 1 ≤ i) (hi2 : i ≤ sN S) (ha : a < 1000) (hQ : Q (.inl (some (.inr (.inr (if tout S a i = 0 then none else jr h 10 (ad (tout S a i))))))) h) : jM g mX0_tableOutwards [.inr (.inr (some (ad i))), .inl (nI a)] h 0 0 Q := by
  have loop : ∀ p a, a < 1000 → p ≤ sN S → Q (.inl (some (.inr (.inr (if tout S a p = 0 then none else jr h 10 (ad (tout S a p))))))) h → jG g mX0_tableOutwards 4 [(2, .inl (nI a)), (3, .inr (.inr (rO ad p)))] [] h 0 0 Q := by
    intro p
    induction p using Nat.strongRecOn with
    | _ p ih =>
      intro a ha hp hq
      refine vX0_tableOutwards_4 ⟨fun c => ?_, fun c => ?_⟩
      · rw [rO_none] at c
        subst c
        exact hq
      · rw [rO_none] at c
        have hr := R.i (i := p) (by omega) hp
        rw [tout_step R.cp (by omega)] at hq
        rw [rO_jd c]
        have e1 := hr.2.2.2.2.2.2.2.1
        have hlt := R.cp p (by omega)
        rw [e1, RT.nn R (by omega) hp]
        refine ⟨hr.2.1, fun c2 => ?_, fun c2 => ⟨fun c3 => ?_, fun c3 => ?_⟩⟩
        · exact ih (cpa S p) hlt a ha (by omega) (by simpa [c2] using hq)
        · have ha0 : ¬ a = 0 := fun q => c3 (by rw [q]; rfl)
          rw [show nI a + -1 = nI (a - 1) from sb_m1 (by omega)]
          exact ih (cpa S p) hlt (a - 1) (by omega) (by omega) (by simpa [c2, ha0] using hq)
        · have ha0 : a = 0 := by
            rw [← nI_0, nI_eq (by omega) (by omega)] at c3
            exact c3
          simpa [c2, ha0, show ¬ p = 0 by omega] using hq
  refine eX0_tableOutwards ?_
  show jG _ _ _ _ _ _ _ _ _
  rw [← rO_some (ad := ad) (show ¬ i = 0 by omega)]
  exact loop i a ha hi2 hQ
/-- Tree.find: the item of a number, or none -/
def fnd (S : sg) (x : Int32) : Nat := if x < 1 ∨ nI (sN S) < x then 0 else x.toNatClampNeg
theorem fnd_le (S : sg) (x : Int32) (hN : sN S ≤ 120) : fnd S x ≤ sN S := by
  unfold fnd
  by_cases hc : x < 1 ∨ nI (sN S) < x
  · rw [if_pos hc]; omega
  · rw [if_neg hc]
    have h1 : ¬ x < 1 := fun q => hc (Or.inl q)
    have h2 : ¬ nI (sN S) < x := fun q => hc (Or.inr q)
    have h0 : ¬ x < 0 := fun q => h1 (by rw [Int32.lt_iff_toInt_lt] at q ⊢; have e0 : (0 : Int32).toInt = 0 := rfl; have e1 : (1 : Int32).toInt = 1 := rfl; omega)
    obtain ⟨j, hj, rfl⟩ := nI_of h0
    rw [nI_clamp hj]
    rw [nI_ltI (by omega) hj] at h2
    omega
theorem fnd_in {x : Int32} (hN : sN S ≤ 120) (hf : ¬ fnd S x = 0) : x = nI (fnd S x) := by
  unfold fnd at hf ⊢
  by_cases hc : x < 1 ∨ nI (sN S) < x
  · rw [if_pos hc] at hf; exact absurd rfl hf
  · rw [if_neg hc]
    have h1 : ¬ x < 1 := fun q => hc (Or.inl q)
    have h0 : ¬ x < 0 := fun q => h1 (by rw [Int32.lt_iff_toInt_lt] at q ⊢; have e0 : (0 : Int32).toInt = 0 := rfl; have e1 : (1 : Int32).toInt = 1 := rfl; omega)
    obtain ⟨j, hj, rfl⟩ := nI_of h0
    rw [nI_clamp hj]
theorem fnd_nI {j : Nat} (hN : sN S ≤ 120) (hj : j < 2 ^ 31) : fnd S (nI j) = if 1 ≤ j ∧ j ≤ sN S then j else 0 := by
  unfold fnd
  have a1 : nI j < 1 ↔ j < 1 := nI_ltI (b := 1) hj (by decide)
  have a2 : nI (sN S) < nI j ↔ sN S < j := nI_ltI (by omega) hj
  simp only [a1, a2, nI_clamp hj]
  by_cases h1 : 1 ≤ j ∧ j ≤ sN S
  · rw [if_pos h1, if_neg (by omega)]
  · rw [if_neg h1, if_pos (by omega)]
theorem c_find (R : RTree h S tr rw ad) {x : Int32} (hQ : Q (.inl (some (.inr (.inr (rO ad (fnd S x)))))) h) : jM g mX8_find [.inr (.inr (some tr)), .inl x] h 0 0 Q := by
  obtain ⟨r1, r2, r3, r4, r5, -⟩ := id R
  have hN := R.N
  have hz : fnd S x = 0 → Q (.inl (some (.inr (.inr none)))) h := fun e => by rw [e] at hQ; exact hQ
  refine eX8_find ⟨fun c => ?_, fun c => ⟨r1, fun c2 => ?_, fun c2 => ⟨fun c3 => ?_, fun c3 => ?_⟩⟩⟩
  · exact hz (if_pos (Or.inl c))
  · rw [r5] at c2
    exact hz (if_pos (Or.inr c2))
  · rw [r5] at c2
    have hc : ¬ (x < 1 ∨ nI (sN S) < x) := fun q => q.elim c c2
    have hf : fnd S x = x.toNatClampNeg := if_neg hc
    have hle := fnd_le S x hN
    have hf0 : ¬ fnd S x = 0 := by
      rw [hf]
      intro q
      have h0 : ¬ x < 0 := fun q => c (by rw [Int32.lt_iff_toInt_lt] at q ⊢; have e0 : (0 : Int32).toInt = 0 := rfl; have e1 : (1 : Int32).toInt = 1 := rfl; omega)
      obtain ⟨j, hj, rfl⟩ := nI_of h0
      rw [nI_clamp hj] at q
      subst q
      exact c (by decide)
    rw [r2]
    have hx := fnd_in hN hf0
    refine ⟨jsn, r3, ?_, ?_⟩
    · show vp_in x (jn h rw)
      rw [r4, hx]
      exact vp_in_nI (by omega) (by decide)
    · show Q (.inl (some (.inr (.inr (jR h rw x.toNatClampNeg))))) h
      rw [← hf, (R.i (by omega) hle).1, ← rO_some hf0]
      exact hQ
  · rw [r5] at c2
    have hc : ¬ (x < 1 ∨ nI (sN S) < x) := fun q => q.elim c c2
    exfalso
    have h0 : ¬ x < 0 := fun q => c (by rw [Int32.lt_iff_toInt_lt] at q ⊢; have e0 : (0 : Int32).toInt = 0 := rfl; have e1 : (1 : Int32).toInt = 1 := rfl; omega)
    obtain ⟨j, hj, rfl⟩ := nI_of h0
    rw [nI_ltI (by omega) hj] at c2
    rw [show (120 : Int32) = nI 120 from rfl, nI_leI hj (by decide)] at c3
    omega
end Item1
