/-! readers: numbers, holds -/
def ob (A : Nat → Int32) (k : Nat) : Nat := (A k).toBitVec.toNat % 256
def rbn (A : Nat → Int32) (p : Nat) : Nat → Int64
  | 0 => (b8 (nI (ob A p))).toInt64
  | k + 1 => rbn A p k * 256 + nL (ob A (p + (k + 1)))
def hbn (A : Nat → Int32) (p j : Nat) : Nat := if j % 2 = 0 then ob A (p + j / 2) / 16 else ob A (p + j / 2) % 16
def pkn (A : Nat → Int32) (p : Nat) : Nat → Nat → Nat → Option Nat
  | 0, _, acc => some acc
  | n + 1, k, acc => if 9 < hbn A p k then none else pkn A p n (k + 1) (acc * 10 + hbn A p k)
def rpk (A : Nat → Int32) (p m n : Nat) : Option Int64 := match pkn A p n (2 * m - 1 - n) 0 with
  | none => none
  | some acc => if ¬ hbn A p (2 * m - 1) = 12 ∧ ¬ hbn A p (2 * m - 1) = 13 ∧ ¬ hbn A p (2 * m - 1) = 15 then none else some (if hbn A p (2 * m - 1) = 13 then -nL acc else nL acc)
def dgo (A : Nat → Int32) (q s k : Nat) : Nat := if k = s ∧ 57 < ob A (q + k) then ob A (q + k) - 64 else ob A (q + k)
def dgn (A : Nat → Int32) (q s : Nat) : Nat → Nat → Nat → Bool → Option (Nat × Bool)
  | 0, _, acc, neg => some (acc, neg)
  | n + 1, k, acc, neg => if dgo A q s k < 48 ∨ 57 < dgo A q s k then none else dgn A q s n (k + 1) (acc * 10 + dgo A q s k - 48) (if k = s ∧ 57 < ob A (q + k) then true else neg)
def dgv (r : Option (Nat × Bool)) : Option Int64 := match r with
  | none => none
  | some (acc, neg) => some (if neg = true then -nL acc else nL acc)
/-- the number that stands at an item (none: there is none) -/
def rdn (S : sg) (A : Nat → Int32) (i : Nat) : Option Int64 := if us S i = 8 then some (rbn A (pl S i) (byi S i - 1)) else if us S i = 7 then rpk A (pl S i) (byi S i) (dg S i) else
  if us S i = 3 then dgv (dgn A (pl S i) (dg S i - 1) (dg S i) 0 0 false) else if us S i = 4 then dgv (dgn A (pl S i) 0 (dg S i) 0 0 false) else
  if ¬ ob A (if us S i = 5 then pl S i else pl S i + dg S i) = 43 ∧ ¬ ob A (if us S i = 5 then pl S i else pl S i + dg S i) = 45 then none else dgv (dgn A (if us S i = 5 then pl S i + 1 else pl S i) (dg S i) (dg S i) 0 0 (decide (ob A (if us S i = 5 then pl S i else pl S i + dg S i) = 45)))
def scn (S : sg) (i : Nat) (v : Int64) : Bool := rany (fun k => decide ((rf S k i).toInt ≤ v.toInt ∧ v.toInt ≤ (rt S k i).toInt)) 0 (rg S i)
def shol (S : sg) (u : Int32) : Bool ⊕ Nat := if fnd S u = 0 ∨ ¬ lv S (fnd S u) = 88 ∨ nam S (fnd S u) = 0 then .inr 1 else if laid S = 0 then .inr 2 else match rdn S (bv S) (nam S (fnd S u)) with
  | none => .inr 2
  | some v => .inl (scn S (fnd S u) v)
/-- what is named is a number, with bytes -/
def WH (S : sg) : Prop := ∀ i, 1 ≤ i → i ≤ sN S → ¬ nam S i = 0 → nam S i ≤ sN S ∧ 3 ≤ us S (nam S i) ∧ us S (nam S i) ≤ 8 ∧ 1 ≤ dg S (nam S i) ∧ dg S (nam S i) ≤ 18 ∧ lv S (nam S i) ≠ 88 ∧ (laid S = 1 → pl S (nam S i) + byi S (nam S i) ≤ tot S)
theorem ob_lt (A : Nat → Int32) (k : Nat) : ob A k < 256 := Nat.mod_lt _ (by decide)
section Hol1
variable {g : jg} {h : jh} {S : sg} {x b1 b2 tr rw pn so al n : Nat} {ad : Nat → Nat} {A : Nat → Int32} {Q : jq}
theorem c_getN (H : BS h so al n A) {k : Nat} (hk : k < n) (hQ : Q (.inl (some (.inl (nI (ob A k))))) h) : jM g mX6_get [.inr (.inr (some so)), .inl (nI k)] h 0 0 Q := by
  refine c_get H hk ?_
  have e : A k &&& 255 = nI (ob A k) := pk_and (A k) 8 (by decide)
  rw [e]; exact hQ
theorem c_readBinary (H : BS h so al n A) {p m : Nat} (hm : 1 ≤ m) (hp : p + m ≤ n) (hQ : Q (.inl (some (.inr (.inl (rbn A p (m - 1)))))) h) : jM g mX2_readBinary [.inr (.inr (some so)), .inl (nI p), .inl (nI m)] h 0 0 Q := by
  have hn := H.nl
  have loop : ∀ d k, k + d + 1 = m → jG g mX2_readBinary 11 [(0, .inr (.inr (some so))), (1, .inl (nI p)), (2, .inl (nI m)), (3, .inr (.inl (rbn A p k))), (5, .inl (nI (k + 1)))] [] h 0 0 Q := by
    intro d
    induction d with
    | zero =>
      intro k e
      have ek : k = m - 1 := by omega
      refine vX2_readBinary_11 ⟨fun _ => by rw [ek]; exact hQ, fun c => absurd ((nI_leI (by omega) (by omega)).mpr (by omega)) c⟩
    | succ d ih =>
      intro k e
      refine vX2_readBinary_11 ⟨fun c => absurd ((nI_leI (by omega) (by omega)).mp c) (by omega), fun _ => ⟨jsn, H.1, ?_⟩⟩
      rw [nI_add, jd_s]
      refine c_getN H (by omega) ?_
      rw [jki_i, nI_toInt64 (by have := ob_lt A (p + (k + 1)); omega), nI_1]
      exact ih (k + 1) (by omega)
  refine eX2_readBinary ⟨jsn, H.1, ?_⟩
  rw [jd_s]
  refine c_getN H (by omega) ?_
  rw [jki_i]
  exact loop (m - 1) 0 (by omega)
theorem c_halfByte (H : BS h so al n A) {p j : Nat} (hj : j < 1000) (hp : p + j / 2 < n) (hQ : Q (.inl (some (.inl (nI (hbn A p j))))) h) : jM g mX2_halfByte [.inr (.inr (some so)), .inl (nI p), .inl (nI j)] h 0 0 Q := by
  have hn := H.nl
  have s1 : nI j >>> ((1 : Int32) &&& 31) = nI (j / 2) := pk_shrN (by omega) _ 1 (by decide)
  have a1 : nI j &&& 1 = nI (j % 2) := pk_andN (by omega) 1 (by decide)
  refine eX2_halfByte ⟨jsn, H.1, ?_⟩
  rw [jd_s, s1, nI_add]
  refine c_getN H hp ?_
  have ol := ob_lt A (p + j / 2)
  have s4 : nI (ob A (p + j / 2)) >>> ((4 : Int32) &&& 31) = nI (ob A (p + j / 2) / 16) := pk_shrN (by omega) _ 4 (by decide)
  have a15 : nI (ob A (p + j / 2)) &&& 15 = nI (ob A (p + j / 2) % 16) := pk_andN (by omega) 4 (by decide)
  have z0 : nI (j % 2) = 0 ↔ j % 2 = 0 := nI_eq (b := 0) (by omega) (by decide)
  rw [jki_i, s4, a15, a1, z0]
  unfold hbn at hQ
  refine ⟨fun c => ?_, fun c => ?_⟩
  · rw [if_neg c] at hQ; exact hQ
  · rw [if_pos c] at hQ; exact hQ
theorem hbn_lt (p j : Nat) : hbn A p j < 16 := by
  have := ob_lt A (p + j / 2)
  unfold hbn
  split <;> omega
theorem c_readPacked (R : RTree h S tr rw ad) (H : BS h so al n A) {i p : Nat} (hi1 : 1 ≤ i) (hi2 : i ≤ sN S) (hd : 1 ≤ dg S i ∧ dg S i ≤ 18) (hu : us S i = 7) (hp : p + byi S i ≤ n) (hQ : ∀ v, rpk A p (byi S i) (dg S i) = some v → Q (.inl (some (.inr (.inl v)))) h) (hX : rpk A p (byi S i) (dg S i) = none → ∀ z, jz h ≤ z → Q (.inr 2) (jgr h z)) : jM g mX2_readPacked [.inr (.inr (some so)), .inl (nI p), .inr (.inr (rO ad i))] h 1 6 Q := by
  have hn := H.nl
  have hi0 : ¬ i = 0 := by omega
  have hb : byi S i = dg S i / 2 + 1 := by unfold byi byts; simp [hu]
  have loop : ∀ d k acc, k + d = 2 * byi S i - 1 → pkn A p d k acc = pkn A p (dg S i) (2 * byi S i - 1 - dg S i) 0 → jG g mX2_readPacked 20 [(0, .inr (.inr (some so))), (1, .inl (nI p)), (3, .inl (nI (2 * byi S i))), (4, .inr (.inl (nL acc))), (6, .inl (nI k))] [] h 1 6 Q := by
    intro d
    induction d with
    | zero =>
      intro k acc e eq
      have em : nI (2 * byi S i) - 1 = nI (2 * byi S i - 1) := pk_sub (b := 1) (by omega)
      have er : rpk A p (byi S i) (dg S i) = if ¬ hbn A p (2 * byi S i - 1) = 12 ∧ ¬ hbn A p (2 * byi S i - 1) = 13 ∧ ¬ hbn A p (2 * byi S i - 1) = 15 then none else some (if hbn A p (2 * byi S i - 1) = 13 then -nL acc else nL acc) := by
        unfold rpk
        rw [← eq]; rfl
      refine vX2_readPacked_20 ?_
      unfold VX2_readPacked_20
      rw [em, nI_leI (by omega) (by omega)]
      refine ⟨fun _ => c_halfByte H (by omega) (by omega) ?_, fun c => absurd (by omega) c⟩
      have hl := hbn_lt (A := A) p (2 * byi S i - 1)
      have z12 : nI (hbn A p (2 * byi S i - 1)) = 12 ↔ hbn A p (2 * byi S i - 1) = 12 := nI_eq (b := 12) (by omega) (by decide)
      have z13 : nI (hbn A p (2 * byi S i - 1)) = 13 ↔ hbn A p (2 * byi S i - 1) = 13 := nI_eq (b := 13) (by omega) (by decide)
      have z15 : nI (hbn A p (2 * byi S i - 1)) = 15 ↔ hbn A p (2 * byi S i - 1) = 15 := nI_eq (b := 15) (by omega) (by decide)
      have fin : ¬ (¬ hbn A p (2 * byi S i - 1) = 12 ∧ ¬ hbn A p (2 * byi S i - 1) = 13 ∧ ¬ hbn A p (2 * byi S i - 1) = 15) → VX2_readPacked_113 g (nL acc) (nI (hbn A p (2 * byi S i - 1))) h 1 6 Q := fun q => by
        rw [if_neg q] at er
        have := hQ _ er
        unfold VX2_readPacked_113
        rw [z13]
        exact ⟨fun c => by rw [if_neg c] at this; exact this, fun c => by rw [if_pos c] at this; exact this⟩
      rw [jki_i, z12, z13, z15]
      refine ⟨fun c => fin (fun q => q.1 c), fun c => ⟨fun c2 => fin (fun q => q.2.1 c2), fun c2 => ⟨fun c3 => fin (fun q => q.2.2 c3), fun c3 => ⟨Nat.le_refl _, Nat.le_refl _, ?_⟩⟩⟩⟩
      rw [if_pos ⟨c, c2, c3⟩] at er
      exact hX er
    | succ d ih =>
      intro k acc e eq
      have em : nI (2 * byi S i) - 1 = nI (2 * byi S i - 1) := pk_sub (b := 1) (by omega)
      have eq' : (if 9 < hbn A p k then none else pkn A p d (k + 1) (acc * 10 + hbn A p k)) = pkn A p (dg S i) (2 * byi S i - 1 - dg S i) 0 := eq
      refine vX2_readPacked_20 ?_
      unfold VX2_readPacked_20
      rw [em, nI_leI (by omega) (by omega)]
      refine ⟨fun c => absurd c (by omega), fun _ => c_halfByte H (by omega) (by omega) ?_⟩
      have hl := hbn_lt (A := A) p k
      have z9 : nI (hbn A p k) ≤ 9 ↔ hbn A p k ≤ 9 := nI_leI (b := 9) (by omega) (by decide)
      rw [jki_i, z9, nI_toInt64 (by omega), show (10 : Int64) = nL 10 from rfl, nL_mul, nL_add, nI_1]
      refine ⟨fun c => ?_, fun c => ⟨Nat.le_refl _, Nat.le_refl _, ?_⟩⟩
      · rw [if_neg (by omega)] at eq'
        exact ih (k + 1) _ (by omega) eq'
      · rw [if_pos (by omega)] at eq'
        refine hX ?_
        unfold rpk
        rw [← eq']
  have es : nI (2 * byi S i) - 1 - nI (dg S i) = nI (2 * byi S i - 1 - dg S i) := by
    rw [show nI (2 * byi S i) - 1 = nI (2 * byi S i - 1) from pk_sub (b := 1) (by omega), pk_sub (by omega)]
  refine eX2_readPacked ⟨fun q => hi0 (rO_none.mp q), ?_⟩
  rw [rO_jd hi0, R.bys hi1 hi2, R.dgi hi1 hi2, show (2 : Int32) = nI 2 from rfl, pk_mul, es]
  exact ⟨R.ty hi1 hi2, loop (dg S i) (2 * byi S i - 1 - dg S i) 0 (by omega) rfl⟩
theorem c_readDigits (R : RTree h S tr rw ad) (H : BS h so al n A) {i : Nat} (hi1 : 1 ≤ i) (hi2 : i ≤ sN S) (hd : 1 ≤ dg S i ∧ dg S i ≤ 18) (hu : 3 ≤ us S i ∧ us S i ≤ 6) (hs : jl h 192 (ad i + 1) = nL (pl S i)) (hp : pl S i + byi S i ≤ n) (hQ : ∀ v, rdn S A i = some v → Q (.inl (some (.inr (.inl v)))) h) (hX : rdn S A i = none → ∀ z, jz h ≤ z → Q (.inr 2) (jgr h z)) : jM g mX2_readDigits [.inr (.inr (some so)), .inl (nI (pl S i)), .inr (.inr (rO ad i))] h 2 12 Q := by
  have hn := H.nl
  have hi0 : ¬ i = 0 := by omega
  have by' : byi S i = if us S i = 5 ∨ us S i = 6 then dg S i + 1 else dg S i := by
    unfold byi byts
    by_cases c : us S i = 5 ∨ us S i = 6
    · rw [if_neg (by omega), if_neg (by omega), if_pos c, if_pos c]
    · rw [if_pos (by omega), if_neg c]
  have hq : ∃ q, q = (if us S i = 5 then pl S i + 1 else pl S i) := ⟨_, rfl⟩
  obtain ⟨q, hq⟩ := hq
  have hss : ∃ s, s = (if us S i = 3 then dg S i - 1 else if us S i = 4 then 0 else dg S i) := ⟨_, rfl⟩
  obtain ⟨s, hss⟩ := hss
  have hqn : q + dg S i ≤ n := by
    rw [hq]
    rw [by'] at hp
    split
    · rename_i c; rw [if_pos (Or.inl c)] at hp; omega
    · split at hp <;> omega
  have sg1 : ∀ k, k < dg S i → (nI k = sgd S i ↔ k = s) := by
    intro k hk
    unfold sgd
    rw [hss]
    by_cases c3 : us S i = 3
    · have ed : nI (dg S i) - 1 = nI (dg S i - 1) := pk_sub (b := 1) hd.1
      rw [if_pos c3, if_pos c3, ed, nI_eq (by omega) (by omega)]
    · rw [if_neg c3, if_neg c3]
      by_cases c4 : us S i = 4
      · rw [if_pos c4, if_pos c4, show (0 : Int32) = nI 0 from rfl, nI_eq (by omega) (by omega)]
      · rw [if_neg c4, if_neg c4]
        refine ⟨fun z => ?_, fun z => by omega⟩
        have := congrArg Int32.toInt z
        rw [nI_toInt (by omega), show (-1 : Int32).toInt = -1 from rfl] at this
        omega
  have sg2 : sgd S i = -1 ↔ (us S i = 5 ∨ us S i = 6) := by
    unfold sgd
    by_cases c3 : us S i = 3
    · have ed : nI (dg S i) - 1 = nI (dg S i - 1) := pk_sub (b := 1) hd.1
      rw [if_pos c3, ed]
      refine ⟨fun z => ?_, fun z => by omega⟩
      have := congrArg Int32.toInt z
      rw [nI_toInt (by omega), show (-1 : Int32).toInt = -1 from rfl] at this
      omega
    · rw [if_neg c3]
      by_cases c4 : us S i = 4
      · rw [if_pos c4]
        exact ⟨fun z => absurd z (by decide), fun z => by omega⟩
      · rw [if_neg c4]
        exact ⟨fun _ => by omega, fun _ => rfl⟩
  have loop : ∀ d k acc (neg : Bool) c1 c2, 1 ≤ c1 → 6 ≤ c2 → k + d = dg S i → dgv (dgn A q s d k acc neg) = rdn S A i → jG g mX2_readDigits 55 [(0, .inr (.inr (some so))), (2, .inr (.inr (rO ad i))), (3, .inl (nI q)), (4, .inl (sgd S i)), (5, .inl (jb neg)), (6, .inr (.inl (nL acc))), (8, .inl (nI k))] [] h c1 c2 Q := by
    intro d
    induction d with
    | zero =>
      intro k acc neg c1 c2 hc1 hc2 e eq
      have eq' : some (if neg = true then -nL acc else nL acc) = rdn S A i := eq
      refine vX2_readDigits_55 ⟨fun z => hi0 (rO_none.mp z), ?_⟩
      rw [rO_jd hi0, R.dgi hi1 hi2, nI_leI (by omega) (by omega), jb_0]
      have := hQ _ eq'.symm
      refine ⟨R.ty hi1 hi2, fun _ => ⟨fun c => ?_, fun c => ?_⟩, fun c => absurd (by omega) c⟩
      · rw [c, if_neg (by decide)] at this; exact this
      · have : neg = true := by simpa using c
        rw [if_pos this] at eq'
        exact hQ _ eq'.symm
    | succ d ih =>
      intro k acc neg c1 c2 hc1 hc2 e eq
      have dn : dgn A q s (d + 1) k acc neg = if dgo A q s k < 48 ∨ 57 < dgo A q s k then none else dgn A q s d (k + 1) (acc * 10 + dgo A q s k - 48) (if k = s ∧ 57 < ob A (q + k) then true else neg) := rfl
      rw [dn] at eq
      have ol := ob_lt A (q + k)
      have bad : (dgo A q s k < 48 ∨ 57 < dgo A q s k) → ∀ z, jz h ≤ z → Q (.inr 2) (jgr h z) := fun c => by
        rw [if_pos c] at eq
        exact hX eq.symm
      have h94 : ∀ (o' : Nat) (neg' : Bool), o' = dgo A q s k → neg' = (if k = s ∧ 57 < ob A (q + k) then true else neg) → VX2_readDigits_94 g (some so) (rO ad i) (nI q) (sgd S i) (jb neg') (nL acc) (nI k) (nI o') h c1 c2 Q := by
        intro o' neg' ho hng
        have o3 : o' < 256 := by rw [ho]; unfold dgo; split <;> omega
        have z1 : nI o' < 48 ↔ o' < 48 := nI_ltI (b := 48) (by omega) (by decide)
        have z2 : nI o' ≤ 57 ↔ o' ≤ 57 := nI_leI (b := 57) (by omega) (by decide)
        unfold VX2_readDigits_94
        rw [z1, z2, nI_toInt64 (by omega), show (10 : Int64) = nL 10 from rfl, nL_mul, nL_add, nI_1]
        refine ⟨fun c => ⟨hc1, hc2, bad (Or.inl (by omega))⟩, fun c => ⟨fun c3 => ?_, fun c3 => ⟨hc1, hc2, bad (Or.inr (by omega))⟩⟩⟩
        rw [if_neg (by omega), ← hng, ← ho] at eq
        rw [show (48 : Int64) = nL 48 from rfl, nL_sub (by omega)]
        exact ih (k + 1) _ neg' c1 c2 hc1 hc2 (by omega) eq
      refine vX2_readDigits_55 ⟨fun z => hi0 (rO_none.mp z), ?_⟩
      rw [rO_jd hi0, R.dgi hi1 hi2, nI_leI (by omega) (by omega)]
      refine ⟨R.ty hi1 hi2, fun c => absurd c (by omega), fun _ => ⟨jsn, H.1, ?_⟩⟩
      rw [jd_s, nI_add]
      refine c_getN H (by omega) ?_
      have z5 : nI (ob A (q + k)) ≤ 57 ↔ ob A (q + k) ≤ 57 := nI_leI (b := 57) (by omega) (by decide)
      rw [jki_i, sg1 k (by omega), z5]
      refine ⟨fun c => h94 _ neg ?_ ?_, fun c => ⟨fun c3 => h94 _ neg ?_ ?_, fun c3 => ?_⟩⟩
      · unfold dgo; rw [if_neg (fun z => c z.1)]
      · rw [if_neg (fun z => c z.1)]
      · unfold dgo; rw [if_neg (by omega)]
      · rw [if_neg (by omega)]
      · by_cases c4 : 64 ≤ ob A (q + k)
        · have e6 : nI (ob A (q + k)) + (-64) = nI (ob A (q + k) - 64) := by
            have e7 : (-64 : Int32) = -(nI 64) := by decide
            rw [← pk_sub c4, e7, Int32.sub_eq_add_neg]
          rw [e6]
          refine h94 _ true ?_ ?_
          · unfold dgo; rw [if_pos ⟨c, by omega⟩]
          · rw [if_pos ⟨c, by omega⟩]
        · -- below the digits
          have lt : nI (ob A (q + k)) + (-64) < 48 := by
            rw [Int32.lt_iff_toInt_lt, Int32.toInt_add, nI_toInt (by omega), show (-64 : Int32).toInt = -64 from rfl, bm32 (by omega) (by omega), show (48 : Int32).toInt = 48 from rfl]; omega
          unfold VX2_readDigits_94
          refine ⟨fun _ => ⟨hc1, hc2, bad (Or.inl ?_)⟩, fun w => absurd lt w⟩
          unfold dgo; rw [if_pos ⟨c, by omega⟩]; omega
  have h15 : VX2_readDigits_15 g (some so) (rO ad i) (nI q) h 2 12 Q := by
    refine c_signedDigit R hi1 hi2 ?_
    rw [jki_i, sg2]
    refine ⟨fun c => ?_, fun c => c_signByte R hi1 hi2 hs ?_⟩
    · refine loop (dg S i) 0 0 false 2 12 (by decide) (by decide) (by omega) ?_
      unfold rdn
      rw [if_neg (by omega), if_neg (by omega), hq, if_neg (by omega), hss]
      by_cases c3 : us S i = 3
      · rw [if_pos c3, if_pos c3]
      · rw [if_neg c3, if_neg c3, if_pos (by omega), if_pos (by omega)]
    · rw [jki_i]
      refine ⟨jsn, H.1, ?_⟩
      rw [jd_s]
      have hsn : (if us S i = 5 then pl S i else pl S i + dg S i) < n := by
        rw [by', if_pos c] at hp
        split <;> omega
      refine c_getN H hsn ?_
      rw [jki_i]
      have ol := ob_lt A (if us S i = 5 then pl S i else pl S i + dg S i)
      have rd' : rdn S A i = if ¬ ob A (if us S i = 5 then pl S i else pl S i + dg S i) = 43 ∧ ¬ ob A (if us S i = 5 then pl S i else pl S i + dg S i) = 45 then none else dgv (dgn A q s (dg S i) 0 0 (decide (ob A (if us S i = 5 then pl S i else pl S i + dg S i) = 45))) := by
        have es : s = dg S i := by rw [hss, if_neg (by omega), if_neg (by omega)]
        unfold rdn
        rw [if_neg (c := us S i = 8) (by omega), if_neg (c := us S i = 7) (by omega), if_neg (c := us S i = 3) (by omega), if_neg (c := us S i = 4) (by omega), hq, es]
      generalize hsb : ob A (if us S i = 5 then pl S i else pl S i + dg S i) = sb at *
      have z43 : nI sb = 43 ↔ sb = 43 := nI_eq (b := 43) (by omega) (by decide)
      have z45 : nI sb = 45 ↔ sb = 45 := nI_eq (b := 45) (by omega) (by decide)
      refine ⟨1, 6, by decide, by decide, eX2_readsMinus ?_⟩
      unfold VX2_readsMinus_0
      rw [z43, z45]
      have go : ∀ neg : Bool, (sb = 43 ∨ sb = 45) → neg = decide (sb = 45) → jG g mX2_readDigits 55 [(0, .inr (.inr (some so))), (2, .inr (.inr (rO ad i))), (3, .inl (nI q)), (4, .inl (sgd S i)), (5, .inl (jb neg)), (6, .inr (.inl 0)), (8, .inl 0)] [] h (2 - 1) (12 - 6) Q := by
        intro neg h1 h2
        refine loop (dg S i) 0 0 neg _ _ (by decide) (by decide) (by omega) ?_
        rw [rd', if_neg (by omega), h2]
      refine ⟨fun c1 => ⟨fun c2 => ?_, fun c2 => by omega⟩, fun c1 => ⟨fun c2 => ⟨fun c3 => absurd c2 c3, fun c3 => ?_⟩, fun c2 => ⟨Nat.le_refl _, Nat.le_refl _, fun z hz => ?_⟩⟩⟩
      · rw [jki_i]
        exact ⟨fun _ => go false (Or.inl c1) (decide_eq_false c2).symm, fun w => absurd rfl w⟩
      · rw [jki_i]
        exact ⟨fun w => absurd w (by decide), fun _ => go true (Or.inr c3) (decide_eq_true c3).symm⟩
      · rw [if_pos ⟨c1, c2⟩] at rd'
        exact hX rd' z hz
  have e5 : ji h 2 (ad i) = 5 ↔ us S i = 5 := R.usk (k := 5) hi1 hi2 (by decide)
  refine eX2_readDigits ⟨fun z => hi0 (rO_none.mp z), ?_⟩
  rw [rO_jd hi0, e5, nI_1]
  refine ⟨R.ty hi1 hi2, fun c => ?_, fun c => ?_⟩
  · rw [if_neg c] at hq; rw [← hq]; exact h15
  · rw [if_pos c] at hq; rw [← hq]; exact h15
end Hol1
