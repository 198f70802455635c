/-! readers: place, size, refer, slack -/
def refus (S : sg) (i : Nat) (b : Bool) : Int32 := if i = 0 then -2 else if lv S i = 88 ∨ (b = true ∧ lv S i = 66) then -4 else if laid S = 0 then -5 else 0
def splace (S : sg) (u : Int32) : Int32 := if ¬ refus S (fnd S u) false = 0 then refus S (fnd S u) false else nI (pl S (fnd S u))
/-- how long an item is now -/
def ssz (S : sg) (i : Nat) : Nat := if mv S i = 0 then ln S i else ln S i - (mo S (mv S i) - nw S (mv S i)) * sd S (mv S i)
def ssize (S : sg) (u : Int32) : Int32 := if ¬ refus S (fnd S u) false = 0 then refus S (fnd S u) false else nI (ssz S (fnd S u))
def srefer (S : sg) (u a b : Int32) : Int32 := if ¬ refus S (fnd S u) false = 0 then refus S (fnd S u) false else if a.toInt < 1 ∨ b.toInt < 1 ∨ (ssz S (fnd S u) : Int) < a.toInt - 1 + b.toInt then -1 else nI (pl S (fnd S u) + a.toInt.toNat - 1)
def sslack (S : sg) (u : Int32) : Int32 := if ¬ refus S (fnd S u) true = 0 then refus S (fnd S u) true else nI (sk S (fnd S u))
/-- what holds of a state that is laid out -/
def WM (S : sg) : Prop := laid S ≤ 1 ∧ (laid S = 1 → tot S ≤ 20000 ∧ ∀ i, 1 ≤ i → i ≤ sN S → (lv S i ≠ 88 → pl S i + ln S i ≤ tot S) ∧ (¬ mv S i = 0 → mv S i ≤ sN S ∧ ¬ tb S (mv S i) = 0 ∧ (mo S (mv S i) - nw S (mv S i)) * sd S (mv S i) ≤ ln S i) ∧ (¬ tb S i = 0 → sd S i ≤ tot S))
section Rea1
variable {g : jg} {h : jh} {S : sg} {x b1 b2 tr rw pn so al : Nat} {ad : Nat → Nat} {Q : jq}
theorem refus_0 {i : Nat} {b : Bool} (h : refus S i b = 0) : ¬ i = 0 ∧ ¬ lv S i = 88 ∧ ¬ laid S = 0 ∧ (b = true → ¬ lv S i = 66) := by
  unfold refus at h
  by_cases h0 : i = 0
  · rw [if_pos h0] at h; cases h
  · rw [if_neg h0] at h
    by_cases h1 : lv S i = 88 ∨ (b = true ∧ lv S i = 66)
    · rw [if_pos h1] at h; cases h
    · rw [if_neg h1] at h
      by_cases h2 : laid S = 0
      · rw [if_pos h2] at h; cases h
      · exact ⟨h0, fun q => h1 (Or.inl q), h2, fun q q2 => h1 (Or.inr ⟨q, q2⟩)⟩
theorem c_refusal (C : RCx h S x b1 b2 tr pn so rw al ad) (M : WM S) {i : Nat} {b : Bool} (hi : i ≤ sN S) (hQ : Q (.inl (some (.inl (refus S i b)))) h) : jM g mX9_refusalFor [.inr (.inr (some x)), .inr (.inr (rO ad i)), .inl (jb b)] h 0 0 Q := by
  obtain ⟨x1, x2, x3, x4, x5, x6, x7, x8, x9, x10, x11, x12, x13, x14, R, H, B, J, L⟩ := id C
  unfold refus at hQ
  have l0 : ji h 451 x = 0 ↔ laid S = 0 := by
    rw [x5, show (0 : Int32) = nI 0 from rfl, nI_eq (by have := M.1; omega) (by decide)]
  have z : rO ad i = none ↔ i = 0 := rO_none
  refine eX9_refusalFor ?_
  unfold VX9_refusalFor_0
  rw [z]
  refine ⟨fun c => ?_, fun c => by rw [if_pos c] at hQ; exact hQ⟩
  have hi1 : 1 ≤ i := by omega
  have lvk : ∀ k : Nat, k < 1000 → (ji h 1 (ad i) = nI k ↔ lv S i = k) := fun k hk => by
    rw [← Int32.toInt_inj, R.lvl hi1 hi, nI_toInt (by omega)]; omega
  have e88 : ji h 1 (ad i) = 88 ↔ lv S i = 88 := lvk 88 (by decide)
  have e66 : ji h 1 (ad i) = 66 ↔ lv S i = 66 := lvk 66 (by decide)
  rw [rO_jd c, e88, e66, l0, jb_0]
  rw [if_neg c] at hQ
  have last : ¬ (lv S i = 88 ∨ (b = true ∧ lv S i = 66)) → (laid S = 0 → Q (.inl (some (.inl (-5)))) h) ∧ (¬ laid S = 0 → Q (.inl (some (.inl 0))) h) := fun q => by
    rw [if_neg q] at hQ
    exact ⟨fun w => by rw [if_pos w] at hQ; exact hQ, fun w => by rw [if_neg w] at hQ; exact hQ⟩
  refine ⟨R.ty hi1 hi, fun q => ?_, fun q => ⟨fun q2 => ⟨x1, last (fun w => ?_)⟩, fun q2 => ⟨fun q3 => ⟨x1, last (fun w => ?_)⟩, fun q3 => ?_⟩⟩⟩
  · rw [if_pos (Or.inl q)] at hQ; exact hQ
  · rcases w with w | w
    · exact q w
    · rw [q2] at w; cases w.1
  · rcases w with w | w
    · exact q w
    · exact q3 w.2
  · have q2' : b = true := by simpa using q2
    rw [if_pos (Or.inr ⟨q2', q3⟩)] at hQ; exact hQ
theorem WM.l1 (M : WM S) (h : ¬ laid S = 0) : laid S = 1 := by have := M.1; omega
theorem c_place (C : RCx h S x b1 b2 tr pn so rw al ad) (M : WM S) {u : Int32} (hQ : Q (.inl (some (.inl (splace S u)))) h) : jM g mX9_place [.inr (.inr (some x)), .inl u] h 0 0 Q := by
  obtain ⟨x1, x2, x3, x4, x5, x6, x7, x8, x9, x10, x11, x12, x13, x14, R, H, B, J, L⟩ := id C
  have hf := fnd_le S u R.N
  unfold splace at hQ
  have z : rO ad (fnd S u) = none ↔ fnd S u = 0 := rO_none
  refine eX9_place ⟨x1, ?_⟩
  rw [x2, jd_s]
  refine ⟨jsn, R.tg, c_find R ?_⟩
  rw [jkr_i]
  refine ⟨x1, c_refusal (b := false) C M hf ?_⟩
  rw [jki_i, z]
  refine ⟨fun c => by rw [if_pos c] at hQ; exact hQ, fun c => ?_⟩
  obtain ⟨r1, r2, r3, r4⟩ := refus_0 c
  rw [if_neg (fun q => q c)] at hQ
  have ll := ((L (M.l1 r3)).2.2.2.2 _ (by omega) hf).1 r2
  rw [rO_jd r1, R.sp (by omega) hf, jd_s, ll.1, toInt32_nL]
  exact ⟨fun _ => ⟨R.ty (by omega) hf, jsn, R.st (by omega) hf, hQ⟩, fun q => absurd q r1⟩
theorem c_slack (C : RCx h S x b1 b2 tr pn so rw al ad) (M : WM S) {u : Int32} (hQ : Q (.inl (some (.inl (sslack S u)))) h) : jM g mX9_slack [.inr (.inr (some x)), .inl u] h 0 0 Q := by
  obtain ⟨x1, x2, x3, x4, x5, x6, x7, x8, x9, x10, x11, x12, x13, x14, R, H, B, J, L⟩ := id C
  have hf := fnd_le S u R.N
  unfold sslack at hQ
  have z : rO ad (fnd S u) = none ↔ fnd S u = 0 := rO_none
  refine eX9_slack ⟨x1, ?_⟩
  rw [x2, jd_s]
  refine ⟨jsn, R.tg, c_find R ?_⟩
  rw [jkr_i]
  refine ⟨x1, c_refusal (b := true) C M hf ?_⟩
  rw [jki_i, z]
  refine ⟨fun c => by rw [if_pos c] at hQ; exact hQ, fun c => ?_⟩
  obtain ⟨r1, r2, r3, r4⟩ := refus_0 c
  rw [if_neg (fun q => q c)] at hQ
  have ll := ((L (M.l1 r3)).2.2.2.2 _ (by omega) hf).2.1
  rw [rO_jd r1, R.sp (by omega) hf, jd_s, ll]
  exact ⟨fun _ => ⟨R.ty (by omega) hf, jsn, R.st (by omega) hf, hQ⟩, fun q => absurd q r1⟩
theorem c_lengthNow (C : RCx h S x b1 b2 tr pn so rw al ad) (M : WM S) {i : Nat} (hi1 : 1 ≤ i) (hi2 : i ≤ sN S) (hl : laid S = 1) (h88 : lv S i ≠ 88) (hQ : Q (.inl (some (.inr (.inl (nL (ssz S i)))))) h) : jM g mX0_lengthNow [.inr (.inr (some (ad i)))] h 0 0 Q := by
  obtain ⟨x1, x2, x3, x4, x5, x6, x7, x8, x9, x10, x11, x12, x13, x14, R, H, B, J, L⟩ := id C
  have LL := (L hl).2.2.2.2
  obtain ⟨l1, l2, l3, l4, l5⟩ := LL i hi1 hi2
  obtain ⟨p1, p2⟩ := l1 h88
  have mm := ((M.2 hl).2 i hi1 hi2).2.1
  have el : pl S i + ln S i - pl S i = ln S i := by omega
  unfold ssz at hQ
  refine eX0_lengthNow ⟨R.ty hi1 hi2, ?_⟩
  rw [R.sp hi1 hi2, jd_s, l4]
  refine ⟨jsn, R.st hi1 hi2, fun c => ?_, fun c => ?_⟩
  · by_cases m0 : mv S i = 0
    · rw [if_pos m0] at c; exact absurd rfl c
    · rw [if_neg m0] at c ⊢
      rw [if_neg m0] at hQ
      obtain ⟨m1, m2, m3⟩ := mm m0
      obtain ⟨t, ht⟩ : ∃ t, jr h 10 (ad (mv S i)) = some t := by
        cases hq : jr h 10 (ad (mv S i)) with
        | none => exact absurd hq c
        | some t => exact ⟨t, rfl⟩
      obtain ⟨y0, y1, y2, y3, y4, y5⟩ := RT.le R (by omega) m1 ht
      have wm := R.wf.2.2.2.2.2.2.1 (mv S i)
      have wn := R.wf.2.2.2.2.2.2.2.1 (mv S i)
      refine c_length R hi1 hi2 p1 p2 (by omega) ?_
      rw [jkl_i, ht, jd_s, y3, y5, pk_sub wn, nI_toInt64 (by omega), (LL (mv S i) (by omega) m1).2.2.2.2 t ht, nL_mul, el, nL_sub m3]
      exact ⟨y1, hQ⟩
  · by_cases m0 : mv S i = 0
    · rw [if_pos m0] at hQ
      refine c_length R hi1 hi2 p1 p2 (by omega) ?_
      rw [jkl_i, el]; exact hQ
    · rw [if_neg m0] at c
      obtain ⟨m1, m2, m3⟩ := mm m0
      exact absurd ((RT.nn R (by omega) m1).mp c) m2
theorem c_size (C : RCx h S x b1 b2 tr pn so rw al ad) (M : WM S) {u : Int32} (hQ : Q (.inl (some (.inl (ssize S u)))) h) : jM g mX9_size [.inr (.inr (some x)), .inl u] h 0 0 Q := by
  obtain ⟨x1, x2, x3, x4, x5, x6, x7, x8, x9, x10, x11, x12, x13, x14, R, H, B, J, L⟩ := id C
  have hf := fnd_le S u R.N
  unfold ssize at hQ
  have z : rO ad (fnd S u) = none ↔ fnd S u = 0 := rO_none
  refine eX9_size ⟨x1, ?_⟩
  rw [x2, jd_s]
  refine ⟨jsn, R.tg, c_find R ?_⟩
  rw [jkr_i]
  refine ⟨x1, c_refusal (b := false) C M hf ?_⟩
  rw [jki_i, z]
  refine ⟨fun c => by rw [if_pos c] at hQ; exact hQ, fun c => ?_⟩
  obtain ⟨r1, r2, r3, r4⟩ := refus_0 c
  rw [if_neg (fun q => q c)] at hQ
  rw [rO_jd r1]
  refine ⟨fun _ => ⟨R.ty (by omega) hf, c_lengthNow C M (by omega) hf (M.l1 r3) r2 ?_⟩, fun q => absurd q r1⟩
  rw [jkl_i, toInt32_nL]
  exact hQ
theorem c_refer (C : RCx h S x b1 b2 tr pn so rw al ad) (M : WM S) {u a b : Int32} (hQ : Q (.inl (some (.inl (srefer S u a b)))) h) : jM g mX9_refer [.inr (.inr (some x)), .inl u, .inl a, .inl b] h 0 0 Q := by
  obtain ⟨x1, x2, x3, x4, x5, x6, x7, x8, x9, x10, x11, x12, x13, x14, R, H, B, J, L⟩ := id C
  have hf := fnd_le S u R.N
  unfold srefer at hQ
  have z : rO ad (fnd S u) = none ↔ fnd S u = 0 := rO_none
  have a1 : ∀ v : Int32, v < 1 ↔ v.toInt < 1 := fun v => by rw [Int32.lt_iff_toInt_lt]; rfl
  refine eX9_refer ⟨x1, ?_⟩
  rw [x2, jd_s]
  refine ⟨jsn, R.tg, c_find R ?_⟩
  rw [jkr_i]
  refine ⟨x1, c_refusal (b := false) C M hf ?_⟩
  rw [jki_i, z, a1, a1]
  refine ⟨fun c => by rw [if_pos c] at hQ; exact hQ, fun c => ?_⟩
  obtain ⟨r1, r2, r3, r4⟩ := refus_0 c
  rw [if_neg (fun q => q c)] at hQ
  have l1 := M.l1 r3
  have ll := ((L l1).2.2.2.2 _ (by omega) hf).1 r2
  have mm := (M.2 l1).2 _ (by omega) hf
  have t2 := (M.2 l1).1
  have m1 := mm.1 r2
  have sz : ssz S (fnd S u) ≤ ln S (fnd S u) := by
    unfold ssz; split <;> omega
  refine ⟨fun _ => ⟨fun q => ?_, fun q => ⟨fun q2 => ?_, fun q2 => ?_⟩⟩, fun q => absurd q r1⟩
  · rw [if_pos (Or.inl q)] at hQ; exact hQ
  · rw [if_pos (Or.inr (Or.inl q2))] at hQ; exact hQ
  · rw [rO_jd r1]
    refine ⟨R.ty (by omega) hf, c_lengthNow C M (by omega) hf l1 r2 ?_⟩
    rw [jkl_i, R.sp (by omega) hf, jd_s, ll.1]
    have b1 := a.toInt_lt
    have b2 := b.toInt_lt
    have ea : a.toInt64 = nL a.toInt.toNat := by rw [← Int64.toInt_inj, Int32.toInt_toInt64, nL_toInt (by omega)]; omega
    have eb : b.toInt64 = nL b.toInt.toNat := by rw [← Int64.toInt_inj, Int32.toInt_toInt64, nL_toInt (by omega)]; omega
    rw [ea, eb, show (1 : Int64) = nL 1 from rfl, nL_sub (by omega), nL_add, nL_add, nL_sub (by omega), toInt32_nL]
    have le : nL (a.toInt.toNat - 1 + b.toInt.toNat) ≤ nL (ssz S (fnd S u)) ↔ a.toInt.toNat - 1 + b.toInt.toNat ≤ ssz S (fnd S u) := pk_lLE (by omega) (by omega)
    rw [le]
    refine ⟨fun q3 => ⟨R.ty (by omega) hf, jsn, R.st (by omega) hf, ?_⟩, fun q3 => ?_⟩
    · rw [if_neg (by omega)] at hQ; exact hQ
    · rw [if_pos (by omega)] at hQ; exact hQ
end Rea1
