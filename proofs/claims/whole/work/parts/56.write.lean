/-! numbers as bytes: digits, text -/
section Wri2
variable {g : jg} {h : jh} {S : sg} {tr rw so al n : Nat} {ad : Nat → Nat} {A : Nat → Int32} {Q : jq}
theorem RTree.usi (R : RTree h S tr rw ad) {i : Nat} (hi1 : 1 ≤ i) (hi2 : i ≤ sN S) : ji h 2 (ad i) = nI (us S i) := (R.i hi1 hi2).2.2.2.2.1
theorem RTree.dgi (R : RTree h S tr rw ad) {i : Nat} (hi1 : 1 ≤ i) (hi2 : i ≤ sN S) : ji h 3 (ad i) = nI (dg S i) := (R.i hi1 hi2).2.2.2.2.2.1
theorem RTree.vli (R : RTree h S tr rw ad) {i : Nat} (hi1 : 1 ≤ i) (hi2 : i ≤ sN S) : ji h 13 (ad i) = vl S i := (R.i hi1 hi2).2.2.2.2.2.2.2.2.2.2.2.2.2.2.2.1
theorem RTree.usk (R : RTree h S tr rw ad) {i k : Nat} (hi1 : 1 ≤ i) (hi2 : i ≤ sN S) (hk : k < 1000) : ji h 2 (ad i) = nI k ↔ us S i = k := by
  rw [R.usi hi1 hi2, nI_eq (by have := R.wf.us i; omega) (by omega)]
/-- which digit has the sign in it -/
def sgd (S : sg) (i : Nat) : Int32 := if us S i = 3 then nI (dg S i) - 1 else if us S i = 4 then 0 else -1
theorem c_signedDigit (R : RTree h S tr rw ad) {i : Nat} (hi1 : 1 ≤ i) (hi2 : i ≤ sN S) (hQ : Q (.inl (some (.inl (sgd S i)))) h) : jM g mX2_signedDigit [.inr (.inr (rO ad i))] h 0 0 Q := by
  have hi0 : ¬ i = 0 := by omega
  have e3 : ji h 2 (ad i) = 3 ↔ us S i = 3 := R.usk (k := 3) hi1 hi2 (by decide)
  have e4 : ji h 2 (ad i) = 4 ↔ us S i = 4 := R.usk (k := 4) hi1 hi2 (by decide)
  unfold sgd at hQ
  refine eX2_signedDigit ⟨fun q => hi0 (rO_none.mp q), ?_⟩
  rw [rO_jd hi0, e3, e4, R.dgi hi1 hi2]
  refine ⟨R.ty hi1 hi2, fun c => ⟨fun c2 => ?_, fun c2 => ?_⟩, fun c => ?_⟩
  · rw [if_neg c, if_neg c2] at hQ; exact hQ
  · rw [if_neg c, if_pos c2] at hQ; exact hQ
  · rw [if_pos c] at hQ; exact hQ
theorem c_signByte (R : RTree h S tr rw ad) {i p : Nat} (hi1 : 1 ≤ i) (hi2 : i ≤ sN S) (hp : jl h 192 (ad i + 1) = nL p) (hQ : Q (.inl (some (.inl (nI (if us S i = 5 then p else p + dg S i))))) h) : jM g mX2_signByte [.inr (.inr (rO ad i))] h 0 0 Q := by
  have hi0 : ¬ i = 0 := by omega
  have e5 : ji h 2 (ad i) = 5 ↔ us S i = 5 := R.usk (k := 5) hi1 hi2 (by decide)
  refine eX2_signByte ⟨fun q => hi0 (rO_none.mp q), ?_⟩
  rw [rO_jd hi0, e5, R.sp hi1 hi2, jd_s, hp, R.dgi hi1 hi2, toInt32_nL, nI_add]
  refine ⟨R.ty hi1 hi2, jsn, R.st hi1 hi2, fun c => ?_, fun c => ?_⟩
  · rw [if_neg c] at hQ; exact hQ
  · rw [if_pos c] at hQ; exact hQ
theorem ibt_3 {i o : Nat} (h : us S i = 3) : ibt S i o = dig1 (dg S i) (nab (vl S i)) (dg S i - 1) (if (vl S i).toInt < 0 then 64 else 0) o := by unfold ibt; simp [h]
theorem ibt_4 {i o : Nat} (h : us S i = 4) : ibt S i o = dig1 (dg S i) (nab (vl S i)) 0 (if (vl S i).toInt < 0 then 64 else 0) o := by unfold ibt; simp [h]
theorem ibt_5 {i o : Nat} (h : us S i = 5) : ibt S i o = if o = 0 then (if (vl S i).toInt < 0 then 45 else 43) else dig1 (dg S i) (nab (vl S i)) 0 0 (o - 1) := by unfold ibt; simp [h]
theorem ibt_6 {i o : Nat} (h : us S i = 6) : ibt S i o = if o = dg S i then (if (vl S i).toInt < 0 then 45 else 43) else dig1 (dg S i) (nab (vl S i)) 0 0 o := by unfold ibt; simp [h]
/-- digits, and the sign that stands alone -/
theorem c_writeDigits (R : RTree h S tr rw ad) (H : BS h so al n A) {i p : Nat} (hi1 : 1 ≤ i) (hi2 : i ≤ sN S) (hp : jl h 192 (ad i + 1) = nL p) (hu : 3 ≤ us S i ∧ us S i ≤ 6) (hd1 : 1 ≤ dg S i) (hn : p + byi S i ≤ n) (hQ : ∀ h', FA al h h' → BS h' so al n (wr p 0 (byi S i) (ibt S i) A) → Q (.inl none) h') : jM g mX2_writeDigits [.inr (.inr (some so)), .inl (nI p), .inr (.inr (rO ad i))] h 0 0 Q := by
  have hnl := H.nl
  have hi0 : ¬ i = 0 := by omega
  have hv := nab_lt (vl S i)
  have hd : ∀ j, nab (vl S i) / 10 ^ j < 2 ^ 63 := fun j => by have := Nat.div_le_self (nab (vl S i)) (10 ^ j); omega
  have hdg := R.wf.dg i
  have ha := H.2.2.1
  have by' : byi S i = if us S i = 5 ∨ us S i = 6 then dg S i + 1 else dg S i := by
    unfold byi byts
    by_cases c : us S i = 5 ∨ us S i = 6
    · rw [if_neg (by omega), if_neg (by omega), if_pos c, if_pos c]
    · rw [if_pos (by omega), if_neg c]
  -- the first digit's place, the signed digit's number, what it has more
  have hq : ∃ q, q = (if us S i = 5 then p + 1 else p) := ⟨_, rfl⟩
  obtain ⟨q, hq⟩ := hq
  have hs : ∃ s, s = (if us S i = 3 then dg S i - 1 else if us S i = 4 then 0 else dg S i) := ⟨_, rfl⟩
  obtain ⟨s, hs⟩ := hs
  have hx : ∃ x, x = (if (vl S i).toInt < 0 then 64 else 0 : Nat) := ⟨_, rfl⟩
  obtain ⟨x, hx⟩ := hx
  have neg : 0 ≤ vl S i ↔ ¬ (vl S i).toInt < 0 := by rw [Int32.le_iff_toInt_le, show (0 : Int32).toInt = 0 from rfl]; omega
  have hqn : q + dg S i ≤ n := by
    rw [hq]
    rw [by'] at hn
    split
    · rename_i c; rw [if_pos (Or.inl c)] at hn; omega
    · split at hn <;> omega
  have sg1 : ∀ k, k < dg S i → (nI k = sgd S i ↔ k = s) := by
    intro k hk
    unfold sgd
    rw [hs]
    by_cases c3 : us S i = 3
    · rw [if_pos c3, if_pos c3, show (1 : Int32) = nI 1 from rfl, pk_sub hd1, nI_eq (by omega) (by omega)]
    · rw [if_neg c3, if_neg c3]
      by_cases c4 : us S i = 4
      · rw [if_pos c4, if_pos c4, show (0 : Int32) = nI 0 from rfl, nI_eq (by omega) (by omega)]
      · rw [if_neg c4, if_neg c4]
        refine ⟨fun z => ?_, fun z => by omega⟩
        have := congrArg Int32.toInt z
        rw [nI_toInt (by omega), show (-1 : Int32).toInt = -1 from rfl] at this
        omega
  have sg2 : sgd S i = -1 ↔ (us S i = 5 ∨ us S i = 6) := by
    unfold sgd
    by_cases c3 : us S i = 3
    · have ed : nI (dg S i) - 1 = nI (dg S i - 1) := pk_sub hd1
      rw [if_pos c3, ed]
      refine ⟨fun z => ?_, fun z => by omega⟩
      have := congrArg Int32.toInt z
      rw [nI_toInt (by omega), show (-1 : Int32).toInt = -1 from rfl] at this
      omega
    · rw [if_neg c3]
      by_cases c4 : us S i = 4
      · rw [if_pos c4]
        exact ⟨fun z => absurd z (by decide), fun z => by omega⟩
      · rw [if_neg c4]
        exact ⟨fun _ => by omega, fun _ => rfl⟩
  -- behind the digits
  have last : ∀ (h1 : jh) (B : Nat → Int32), FA al h h1 → BS h1 so al n B → (∀ k, k < n → B k = wr q 0 (dg S i) (dig1 (dg S i) (nab (vl S i)) s x) A k) → (¬ sgd S i = -1 → Q (.inl none) h1) ∧ (sgd S i = -1 → jM g mX2_signByte [.inr (.inr (rO ad i))] h1 0 0 (jki (fun (r7 : Int32) (h8 : jh) => (¬ (rO ad i) = none) ∧ (jt h8 (jd (rO ad i)) = 1) ∧ ((0 ≤ (ji h8 13 (jd (rO ad i))) → (¬ (some so : Option Nat) = none) ∧ (jt h8 (jd (some so)) = 5) ∧ jM g mX6_put [.inr (.inr (some (jd (some so)))), .inl (r7), .inl (43)] h8 0 0 (jkv (fun (h15 : jh) => Q (.inl none) h15) (fun e h9 => Q (.inr e) h9))) ∧ (¬ 0 ≤ (ji h8 13 (jd (rO ad i))) → (¬ (some so : Option Nat) = none) ∧ (jt h8 (jd (some so)) = 5) ∧ jM g mX6_put [.inr (.inr (some (jd (some so)))), .inl (r7), .inl (45)] h8 0 0 (jkv (fun (h19 : jh) => Q (.inl none) h19) (fun e h9 => Q (.inr e) h9))))) (fun e h9 => Q (.inr e) h9))) := by
    intro h1 B F1 H1 eB
    have R1 := R.fa ha F1
    have p1 : jl h1 192 (ad i + 1) = nL p := by rw [F1.2.2.2.2.1]; exact hp
    have fin : ∀ h2 B2, FA al h1 h2 → BS h2 so al n B2 → (∀ k, k < n → B2 k = wr p 0 (byi S i) (ibt S i) A k) → Q (.inl none) h2 := fun h2 B2 F2 H2 e2 => hQ h2 (F1.trans F2) (H2.eq e2)
    refine ⟨fun c => ?_, fun c => ?_⟩
    · rw [sg2] at c
      refine fin h1 B FA.rf H1 (fun k hk => ?_)
      rw [eB k hk, hq, if_neg (by omega), by', if_neg c]
      unfold wr
      by_cases z : p + 0 ≤ k ∧ k < p + dg S i
      · rw [if_pos z, if_pos z, hs, hx]
        by_cases c3 : us S i = 3
        · rw [if_pos c3, ibt_3 c3]
        · have c4 : us S i = 4 := by omega
          rw [if_neg c3, ibt_4 c4, if_pos c4]
      · rw [if_neg z, if_neg z]
    · rw [sg2] at c
      refine c_signByte R1 hi1 hi2 p1 ?_
      rw [jki_i, rO_jd hi0, R1.vli hi1 hi2, neg, jd_s]
      have es : s = dg S i := by rw [hs, if_neg (by omega), if_neg (by omega)]
      have hsn : (if us S i = 5 then p else p + dg S i) < n := by
        rw [by', if_pos c] at hn
        split <;> omega
      have done : ∀ w : Int32, w = (if (vl S i).toInt < 0 then 45 else 43) → (¬ (some so : Option Nat) = none) ∧ (jt h1 so = 5) ∧ jM g mX6_put [.inr (.inr (some so)), .inl (nI (if us S i = 5 then p else p + dg S i)), .inl w] h1 0 0 (jkv (fun (h15 : jh) => Q (.inl none) h15) (fun e h9 => Q (.inr e) h9)) := by
        intro w hw
        refine ⟨jsn, H1.1, c_put H1 hsn (fun h2 F2 H2 => ?_)⟩
        rw [jkv_i]
        refine fin h2 _ F2 H2 (fun k hk => ?_)
        have bw : b8 w = w := by
          rw [hw]; split <;> decide
        rw [bw, by', if_pos c]
        unfold wr1
        have dg0 : ∀ o, o < dg S i → dig1 (dg S i) (nab (vl S i)) s x o = dig1 (dg S i) (nab (vl S i)) 0 0 o := fun o ho => by
          unfold dig1
          rw [es, if_neg (by omega), ite_self]
        by_cases c5 : us S i = 5
        · rw [if_pos c5]
          rw [if_pos c5] at hq
          unfold wr
          by_cases z : k = p
          · rw [if_pos z, if_pos (by omega), z, Nat.sub_self]
            rw [ibt_5 c5, if_pos rfl, hw]
          · rw [if_neg z, eB k hk]
            unfold wr
            rw [hq]
            by_cases z2 : p + 1 + 0 ≤ k ∧ k < p + 1 + dg S i
            · rw [if_pos z2, if_pos (by omega), dg0 _ (by omega)]
              rw [ibt_5 c5, if_neg (by omega)]
              congr 1
            · rw [if_neg z2, if_neg (by omega)]
        · rw [if_neg c5]
          rw [if_neg c5] at hq
          have c6 : us S i = 6 := by omega
          unfold wr
          by_cases z : k = p + dg S i
          · rw [if_pos z, if_pos (by omega), z, Nat.add_sub_cancel_left]
            rw [ibt_6 c6, if_pos rfl, hw]
          · rw [if_neg z, eB k hk]
            unfold wr
            rw [hq]
            by_cases z2 : p + 0 ≤ k ∧ k < p + dg S i
            · rw [if_pos z2, if_pos (by omega), dg0 _ (by omega)]
              rw [ibt_6 c6, if_neg (by omega)]
            · rw [if_neg z2, if_neg (by omega)]
      refine ⟨fun z => hi0 (rO_none.mp z), R1.ty hi1 hi2, fun z => done 43 (by rw [if_neg z]), fun z => done 45 (by rw [if_pos (Decidable.not_not.mp z)])⟩
  have loop : ∀ k (h1 : jh) (B : Nat → Int32), k ≤ dg S i → FA al h h1 → BS h1 so al n B → (∀ j, j < n → B j = wr q k (dg S i) (dig1 (dg S i) (nab (vl S i)) s x) A j) → jG g mX2_writeDigits 40 [(0, .inr (.inr (some so))), (2, .inr (.inr (rO ad i))), (3, .inr (.inl (nL (nab (vl S i) / 10 ^ (dg S i - k))))), (5, .inl (nI q)), (6, .inl (sgd S i)), (7, .inl (nI k - 1))] [] h1 0 0 Q := by
    intro k
    induction k with
    | zero =>
      intro h1 B _ F1 H1 eB
      exact vX2_writeDigits_40 ⟨fun _ => last h1 B F1 H1 eB, fun c => absurd (by decide) c⟩
    | succ k ih =>
      intro h1 B hk F1 H1 eB
      have R1 := R.fa ha F1
      rw [nI_pred]
      have key : ∀ w : Nat, w = (if k = s then x else 0) → VX2_writeDigits_65 g (some so) (rO ad i) (nL (nab (vl S i) / 10 ^ (dg S i - (k + 1)))) (nI q) (sgd S i) (nI k) (nI w) h1 0 0 Q := by
        intro w hw
        refine ⟨jsn, H1.1, ?_⟩
        rw [jd_s, nI_add, rem10 (hd _), div10 (hd _), dv1, toInt32_nL, show (48 : Int32) = nI 48 from rfl, nI_add, nI_add, subm1]
        refine c_put H1 (k := q + k) (by omega) (fun h2 F2 H2 => ?_)
        rw [jkv_i]
        have e1 : dg S i - (k + 1) + 1 = dg S i - k := by omega
        have e2 : b8 (nI (48 + nab (vl S i) / 10 ^ (dg S i - (k + 1)) % 10 + w)) = dig1 (dg S i) (nab (vl S i)) s x k := by
          unfold dig1 dgt
          have : dg S i - 1 - k = dg S i - (k + 1) := by omega
          rw [this, hw]
        rw [e1]
        refine ih h2 _ (by omega) (F1.trans F2) H2 (fun j hj => ?_)
        rw [e2, ← wr_step (by omega)]
        unfold wr1
        split
        · rfl
        · exact eB j hj
      refine vX2_writeDigits_40 ⟨fun c => absurd c (nI_pos (by omega)), fun _ => ?_⟩
      rw [sg1 k (by omega), rO_jd hi0, R1.vli hi1 hi2, neg]
      refine ⟨fun c => key 0 (by rw [if_neg c]), fun c => ⟨fun z => hi0 (rO_none.mp z), R1.ty hi1 hi2, fun z => key 0 (by rw [if_pos c, hx, if_neg z]), fun z => key 64 (by rw [if_pos c, hx, if_pos (Decidable.not_not.mp z)])⟩⟩
  have h24 : VX2_writeDigits_24 g (some so) (rO ad i) (nL (nab (vl S i))) (nI q) h 0 0 Q := by
    refine c_signedDigit R hi1 hi2 ?_
    rw [jki_i, rO_jd hi0, R.dgi hi1 hi2]
    refine ⟨fun z => hi0 (rO_none.mp z), R.ty hi1 hi2, ?_⟩
    have := loop (dg S i) h A (Nat.le_refl _) FA.rf H (fun j _ => by unfold wr; rw [if_neg (by omega)])
    rw [Nat.sub_self, Nat.pow_zero, Nat.div_one] at this
    exact this
  have e5 : ji h 2 (ad i) = 5 ↔ us S i = 5 := R.usk (k := 5) hi1 hi2 (by decide)
  refine eX2_writeDigits ⟨fun z => hi0 (rO_none.mp z), ?_⟩
  rw [rO_jd hi0, e5, R.vli hi1 hi2, abs_L, nI_1]
  refine ⟨R.ty hi1 hi2, fun c => ?_, fun c => ?_⟩
  · rw [if_neg c] at hq; rw [← hq]; exact h24
  · rw [if_pos c] at hq; rw [← hq]; exact h24
end Wri2
