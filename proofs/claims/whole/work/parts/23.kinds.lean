/-! contracts: Kinds, small ones of Item -/
def okL (x : Int) : Bool := decide ((1 ≤ x ∧ x ≤ 49) ∨ x = 66 ∨ x = 77 ∨ x = 88)
def okN (x : Int) : Bool := decide (3 ≤ x ∧ x ≤ 8)
def okU (l u s : Int) : Bool := decide (((l = 66 ∨ l = 88) ∧ u = 0 ∧ s = 0) ∨ (¬ (l = 66 ∨ l = 88) ∧ ((u = 1 ∧ 1 ≤ s ∧ s ≤ 200) ∨ (u = 2 ∧ 1 ≤ s ∧ s ≤ 100) ∨ ((u = 0 ∨ u = 9 ∨ u = 10 ∨ u = 11) ∧ s = 0) ∨ (3 ≤ u ∧ u ≤ 8 ∧ 1 ≤ s ∧ s ≤ 18))))
def okC (k a b : Int) : Bool := decide ((k = 0 ∧ 1 ≤ a ∧ a ≤ 999) ∨ (k = 1 ∧ 0 ≤ a ∧ a ≤ b ∧ 1 ≤ b ∧ b ≤ 999) ∨ (k = 4 ∧ a ≤ b) ∨ k = 2 ∨ k = 3 ∨ k = 5)
theorem jki_i {K : Int32 → jh → Prop} {X : Nat → jh → Prop} {x : Int32} {h : jh} : jki K X (.inl (some (.inl x))) h = K x h := rfl
theorem jkl_i {K : Int64 → jh → Prop} {X : Nat → jh → Prop} {x : Int64} {h : jh} : jkl K X (.inl (some (.inr (.inl x)))) h = K x h := rfl
theorem jkr_i {K : Option Nat → jh → Prop} {X : Nat → jh → Prop} {x : Option Nat} {h : jh} : jkr K X (.inl (some (.inr (.inr x)))) h = K x h := rfl
theorem jkv_i {K : jh → Prop} {X : Nat → jh → Prop} {h : jh} : jkv K X (.inl none) h = K h := rfl
theorem jb_ti0 {b : Bool} : (jb b).toInt = 0 ↔ b = false := by cases b <;> decide
section Kinds1
variable {g : jg} {h : jh} {Q : jq}
theorem jq_t {b : Bool} (hQ : Q (.inl (some (.inl (jb b)))) h) : b = true → Q (.inl (some (.inl 1))) h := fun e => by rw [e] at hQ; exact hQ
theorem jq_f {b : Bool} (hQ : Q (.inl (some (.inl (jb b)))) h) : b = false → Q (.inl (some (.inl 0))) h := fun e => by rw [e] at hQ; exact hQ
theorem c_isNumeric {x : Int32} (hQ : Q (.inl (some (.inl (jb (okN x.toInt))))) h) : jM g mX1_isNumeric [.inl x] h 0 0 Q := by
  have h1 := jq_t hQ
  have h0 := jq_f hQ
  refine eX1_isNumeric ?_
  unfold VX1_isNumeric_0
  simp only [Int32.lt_iff_toInt_lt, Int32.le_iff_toInt_le, ← Int32.toInt_inj, Int32.reduceToInt]
  repeat' (first | intro _ | apply And.intro)
  all_goals first | exact h1 (decide_eq_true (by omega)) | exact h0 (decide_eq_false (by omega))
theorem c_isLevel {x : Int32} (hQ : Q (.inl (some (.inl (jb (okL x.toInt))))) h) : jM g mX1_isLevel [.inl x] h 0 0 Q := by
  have h1 := jq_t hQ
  have h0 := jq_f hQ
  refine eX1_isLevel ?_
  unfold VX1_isLevel_0 VX1_isLevel_11
  simp only [Int32.lt_iff_toInt_lt, Int32.le_iff_toInt_le, ← Int32.toInt_inj, Int32.reduceToInt]
  repeat' (first | intro _ | apply And.intro)
  all_goals first | exact h1 (decide_eq_true (by omega)) | exact h0 (decide_eq_false (by omega))
theorem c_isUsage {l u x : Int32} (hQ : Q (.inl (some (.inl (jb (okU l.toInt u.toInt x.toInt))))) h) : jM g mX1_isUsage [.inl l, .inl u, .inl x] h 0 0 Q := by
  have h1 := jq_t hQ
  have h0 := jq_f hQ
  refine eX1_isUsage ?_
  unfold VX1_isUsage_0 VX1_isUsage_12
  simp only [Int32.lt_iff_toInt_lt, Int32.le_iff_toInt_le, ← Int32.toInt_inj, Int32.reduceToInt]
  repeat' (first | (refine c_isNumeric ?_; rw [jki_i]; simp only [jb_ti0, okN, decide_eq_false_iff_not]) | apply And.intro | intro _)
  all_goals first | exact h1 (decide_eq_true (by omega)) | exact h0 (decide_eq_false (by omega))
theorem c_isClause {l u x : Int32} (hQ : Q (.inl (some (.inl (jb (okC l.toInt u.toInt x.toInt))))) h) : jM g mX1_isClause [.inl l, .inl u, .inl x] h 0 0 Q := by
  have h1 := jq_t hQ
  have h0 := jq_f hQ
  refine eX1_isClause ?_
  unfold VX1_isClause_0
  simp only [Int32.lt_iff_toInt_lt, Int32.le_iff_toInt_le, ← Int32.toInt_inj, Int32.reduceToInt]
  repeat' (first | intro _ | apply And.intro)
  all_goals first | exact h1 (decide_eq_true (by omega)) | exact h0 (decide_eq_false (by omega))
theorem c_bytesOf {u n : Nat} (hu : u < 2 ^ 31) (hn : n ≤ 200) (hQ : Q (.inl (some (.inl (nI (byts u n))))) h) : jM g mX1_bytesOf [.inl (nI u), .inl (nI n)] h 0 0 Q := by
  have hq : ∀ m, m = byts u n → Q (.inl (some (.inl (nI m)))) h := fun m e => by rw [e]; exact hQ
  refine eX1_bytesOf ?_
  unfold VX1_bytesOf_0
  have e2 : (2 : Int32) * nI n = nI (2 * n) := pk_mul 2 n
  have e1 : nI n + 1 = nI (n + 1) := nI_1 n
  have e7 : nI n >>> ((1 : Int32) &&& 31) + 1 = nI (n / 2 + 1) := by rw [pk_shrN (n := n) (by omega) ((1 : Int32) &&& 31) 1 (by decide)]; exact nI_1 _
  rw [e2, e1, e7]
  simp only [Int32.lt_iff_toInt_lt, Int32.le_iff_toInt_le, ← Int32.toInt_inj, Int32.reduceToInt, nI_toInt hu, nI_toInt (show n < 2 ^ 31 by omega)]
  refine ⟨fun c => ?_, fun c => ?_, fun c => ?_, fun c => ?_, fun c => ?_, fun c => ?_, fun c => ?_, fun c => ⟨fun c2 => ⟨fun c3 => ?_, fun c3 => ?_⟩, fun c2 => ?_⟩, fun c => ?_, fun c => ?_, fun c => ?_, fun c => ?_⟩
  · exact hq n (by unfold byts; rw [if_pos (by omega)])
  · exact hq _ (by unfold byts; rw [if_neg (by omega), if_pos (by omega)])
  · exact hq n (by unfold byts; rw [if_pos (by omega)])
  · exact hq n (by unfold byts; rw [if_pos (by omega)])
  · exact hq _ (by unfold byts; rw [if_neg (by omega), if_neg (by omega), if_pos (by omega)])
  · exact hq _ (by unfold byts; rw [if_neg (by omega), if_neg (by omega), if_pos (by omega)])
  · exact hq _ (by unfold byts; rw [if_neg (by omega), if_neg (by omega), if_neg (by omega), if_pos (by omega)])
  · exact hq 8 (by unfold byts; rw [if_neg (by omega), if_neg (by omega), if_neg (by omega), if_neg (by omega), if_pos (by omega), if_neg (by omega), if_neg (by omega)])
  · exact hq 4 (by unfold byts; rw [if_neg (by omega), if_neg (by omega), if_neg (by omega), if_neg (by omega), if_pos (by omega), if_neg (by omega), if_pos (by omega)])
  · exact hq 2 (by unfold byts; rw [if_neg (by omega), if_neg (by omega), if_neg (by omega), if_neg (by omega), if_pos (by omega), if_pos (by omega)])
  · exact hq 4 (by unfold byts; rw [if_neg (by omega), if_neg (by omega), if_neg (by omega), if_neg (by omega), if_neg (by omega), if_pos (by omega)])
  · exact hq 8 (by unfold byts; rw [if_neg (by omega), if_neg (by omega), if_neg (by omega), if_neg (by omega), if_neg (by omega), if_neg (by omega), if_pos (by omega)])
  · exact hq 4 (by unfold byts; rw [if_neg (by omega), if_neg (by omega), if_neg (by omega), if_neg (by omega), if_neg (by omega), if_pos (by omega)])
  · exact hq 0 (by unfold byts; rw [if_neg (by omega), if_neg (by omega), if_neg (by omega), if_neg (by omega), if_neg (by omega), if_neg (by omega), if_neg (by omega)])
end Kinds1
section Kinds2
variable {g : jg} {h : jh} {S : sg} {tr rw : Nat} {ad : Nat → Nat} {Q : jq}
theorem WF.lv {S : sg} (h : WF S) (i : Nat) : lv S i ≤ 88 := h.2.2.1 i
theorem WF.us {S : sg} (h : WF S) (i : Nat) : us S i ≤ 11 := h.2.2.2.1 i
theorem WF.dg {S : sg} (h : WF S) (i : Nat) : dg S i ≤ 200 := h.2.2.2.2.1 i
theorem RTree.wf (R : RTree h S tr rw ad) : WF S := R.2.2.2.2.2.1
theorem c_isNumber (R : RTree h S tr rw ad) {i : Nat} (hi1 : 1 ≤ i) (hi2 : i ≤ sN S) (hQ : Q (.inl (some (.inl (jb (okN (us S i)))))) h) : jM g mX0_isNumber [.inr (.inr (some (ad i)))] h 0 0 Q := by
  have hr := R.i hi1 hi2
  have hu := R.wf.us i
  refine eX0_isNumber ⟨hr.2.1, ?_⟩
  rw [hr.2.2.2.2.1]
  refine c_isNumeric ?_
  rw [jki_i, nI_toInt (by omega)]
  exact ⟨jb_01 _, hQ⟩
theorem c_isInner (R : RTree h S tr rw ad) {i : Nat} (hi1 : 1 ≤ i) (hi2 : i ≤ sN S) (hQ : Q (.inl (some (.inl (jb (decide (2 ≤ lv S i ∧ lv S i ≤ 49)))))) h) : jM g mX0_isInner [.inr (.inr (some (ad i)))] h 0 0 Q := by
  have hr := R.i hi1 hi2
  have hu := R.wf.lv i
  have h1 := jq_t hQ
  have h0 := jq_f hQ
  refine eX0_isInner ⟨hr.2.1, ?_⟩
  rw [hr.2.2.2.1]
  simp only [Int32.lt_iff_toInt_lt, Int32.le_iff_toInt_le, ← Int32.toInt_inj, Int32.reduceToInt, nI_toInt (show lv S i < 2 ^ 31 by omega)]
  repeat' (first | intro _ | apply And.intro)
  all_goals first | exact h1 (decide_eq_true (by omega)) | exact h0 (decide_eq_false (by omega))
/-- levels are 1 .. 49, 66, 77, 88 -/
def WL (S : sg) : Prop := ∀ i, 1 ≤ i → i ≤ sN S → (1 ≤ lv S i ∧ lv S i ≤ 49) ∨ lv S i = 66 ∨ lv S i = 77 ∨ lv S i = 88
theorem c_lies (R : RTree h S tr rw ad) (L : WL S) {i : Nat} (hi1 : 1 ≤ i) (hi2 : i ≤ sN S) (hQ : Q (.inl (some (.inl (jb (lies S i))))) h) : jM g mX0_lies [.inr (.inr (some (ad i)))] h 0 0 Q := by
  have hr := R.i hi1 hi2
  have hu := R.wf.lv i
  have hl := L i hi1 hi2
  have h1 := jq_t hQ
  have h0 := jq_f hQ
  refine eX0_lies ⟨hr.2.1, ?_⟩
  rw [hr.2.2.2.1]
  simp only [Int32.lt_iff_toInt_lt, Int32.le_iff_toInt_le, ← Int32.toInt_inj, Int32.reduceToInt, nI_toInt (show lv S i < 2 ^ 31 by omega)]
  have hl1 : lies S i = true ↔ (lv S i < 50 ∨ lv S i = 77) := by simp [lies]
  have hl0 : lies S i = false ↔ ¬ (lv S i < 50 ∨ lv S i = 77) := by simp [lies]
  repeat' (first | intro _ | apply And.intro)
  all_goals first | exact h1 (hl1.mpr (by omega)) | exact h0 (hl0.mpr (by omega))
end Kinds2
