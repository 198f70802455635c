/-! numbers as bytes: how they are written -/
def wr (p m n : Nat) (f : Nat → Int32) (A : Nat → Int32) : Nat → Int32 := fun k => if p + m ≤ k ∧ k < p + n then f (k - p) else A k
theorem wr_step {p m n : Nat} {f A : Nat → Int32} (h : m < n) (k : Nat) : wr1 (wr p (m + 1) n f A) (p + m) (f m) k = wr p m n f A k := by
  unfold wr1 wr
  by_cases q : k = p + m
  · rw [if_pos q, if_pos (by omega)]
    congr 1; omega
  · rw [if_neg q]
    by_cases q2 : p + (m + 1) ≤ k ∧ k < p + n
    · rw [if_pos q2, if_pos (by omega)]
    · rw [if_neg q2, if_neg (by omega)]
def sh8 (x : Int64) : Int64 := x >>> ((8 : Int32).toInt64 &&& 63)
def shF : Nat → Int64 → Int64
  | 0, x => x
  | j + 1, x => sh8 (shF j x)
def dgt (a j : Nat) : Nat := a / 10 ^ j % 10
def nab (v : Int32) : Nat := v.toInt.natAbs
def bin1 (m : Nat) (x : Int64) (o : Nat) : Int32 := b8 (shF (m - 1 - o) x).toInt32
def pak1 (m a s o : Nat) : Int32 := b8 (nI (dgt a (2 * (m - 1 - o)) * 16 + (if m - 1 - o = 0 then s else dgt a (2 * (m - 1 - o) - 1))))
def dig1 (m a k1 s o : Nat) : Int32 := b8 (nI (48 + dgt a (m - 1 - o) + if o = k1 then s else 0))
/-- byte o of an item, as it is first -/
def ibt (S : sg) (i o : Nat) : Int32 := if us S i = 1 then 32 else if us S i = 2 then (if o % 2 = 1 then 32 else 0) else if us S i = 8 then bin1 (byi S i) (vl S i).toInt64 o else if us S i = 7 then pak1 (byi S i) (nab (vl S i)) (if (vl S i).toInt < 0 then 13 else 12) o else
  if us S i = 3 then dig1 (dg S i) (nab (vl S i)) (dg S i - 1) (if (vl S i).toInt < 0 then 64 else 0) o else if us S i = 4 then dig1 (dg S i) (nab (vl S i)) 0 (if (vl S i).toInt < 0 then 64 else 0) o else if us S i = 5 then (if o = 0 then (if (vl S i).toInt < 0 then 45 else 43) else dig1 (dg S i) (nab (vl S i)) 0 0 (o - 1)) else if us S i = 6 then (if o = dg S i then (if (vl S i).toInt < 0 then 45 else 43) else dig1 (dg S i) (nab (vl S i)) 0 0 o) else 0
theorem toInt_and255 (x : Int64) : (x &&& 255).toInt = ((x.toBitVec.toNat % 256 : Nat) : Int) := by
  have e : (x &&& 255).toBitVec.toNat = x.toBitVec.toNat % 256 := by
    rw [Int64.toBitVec_and, BitVec.toNat_and]
    have : (255 : Int64).toBitVec.toNat = 2 ^ 8 - 1 := by decide
    rw [this, Nat.and_two_pow_sub_one_eq_mod]
  show (x &&& 255).toBitVec.toInt = _
  rw [BitVec.toInt_eq_toNat_of_lt (by rw [e]; omega), e]
theorem b8_and (x : Int64) : b8 (x &&& 255).toInt32 = b8 x.toInt32 := by
  unfold b8
  congr 1
  rw [← Int8.toInt_inj, Int32.toInt_toInt8, Int32.toInt_toInt8, Int64.toInt_toInt32, Int64.toInt_toInt32, Int.bmod_bmod_of_dvd (by decide), Int.bmod_bmod_of_dvd (by decide), toInt_and255]
  have e : x.toInt = (x.toBitVec.toNat : Int).bmod (2 ^ 64) := BitVec.toInt_eq_toNat_bmod _
  rw [e, Int.bmod_bmod_of_dvd (by decide)]
  have : ((x.toBitVec.toNat % 256 : Nat) : Int) = (x.toBitVec.toNat : Int) % 256 := by omega
  rw [this]
  exact Int.emod_bmod _ 256
theorem abs_L (v : Int32) : (if 0 < v.toInt64 then v.toInt64 else -v.toInt64) = nL (nab v) := by
  have h1 := v.le_toInt
  have h2 := v.toInt_lt
  unfold nab
  have ha : v.toInt.natAbs < 2 ^ 63 := by omega
  rw [← Int64.toInt_inj, nL_toInt ha]
  have e : 0 < v.toInt64 ↔ 0 < v.toInt := by rw [Int64.lt_iff_toInt_lt, Int32.toInt_toInt64]; rfl
  by_cases c : 0 < v.toInt
  · rw [if_pos (e.mpr c), Int32.toInt_toInt64]; omega
  · rw [if_neg (fun q => c (e.mp q)), Int64.toInt_neg, Int32.toInt_toInt64, bm64 (by omega) (by omega)]; omega
theorem nab_lt (v : Int32) : nab v ≤ 2 ^ 31 := by
  have h1 := v.le_toInt
  have h2 := v.toInt_lt
  unfold nab; omega
theorem div10 {a : Nat} (ha : a < 2 ^ 63) : nL a / 10 = nL (a / 10) := pk_lDiv ha (by decide) (by decide)
theorem rem10 {a : Nat} (ha : a < 2 ^ 63) : nL a - nL a / 10 * 10 = nL (a % 10) := pk_lRem ha (by decide) (by decide)
theorem dv1 (a j : Nat) : a / 10 ^ j / 10 = a / 10 ^ (j + 1) := by rw [Nat.div_div_eq_div_mul, Nat.pow_succ]
theorem subm1 (m : Nat) : nI m + (-1) = nI m - 1 := by rw [Int32.sub_eq_add_neg]
section Wri1
variable {g : jg} {h : jh} {so al n : Nat} {A : Nat → Int32} {Q : jq}
theorem c_writeBinary (H : BS h so al n A) {p m : Nat} {x : Int64} (hp : p + m ≤ n) (hQ : ∀ h', FA al h h' → BS h' so al n (wr p 0 m (bin1 m x) A) → Q (.inl none) h') : jM g mX2_writeBinary [.inr (.inr (some so)), .inl (nI p), .inl (nI m), .inr (.inl x)] h 0 0 Q := by
  have hn := H.nl
  have loop : ∀ k (h1 : jh) (B : Nat → Int32), k ≤ m → FA al h h1 → BS h1 so al n B → (∀ i, i < n → B i = wr p k m (bin1 m x) A i) → jG g mX2_writeBinary 8 [(0, .inr (.inr (some so))), (1, .inl (nI p)), (5, .inr (.inl (shF (m - k) x))), (7, .inl (nI k - 1))] [] h1 0 0 Q := by
    intro k
    induction k with
    | zero =>
      intro h1 B _ F1 H1 eB
      exact vX2_writeBinary_8 ⟨fun _ => hQ h1 F1 (H1.eq eB), fun c => absurd (by decide) c⟩
    | succ k ih =>
      intro h1 B hk F1 H1 eB
      rw [nI_pred]
      refine vX2_writeBinary_8 ⟨fun c => absurd c (nI_pos (by omega)), fun _ => ⟨jsn, H1.1, ?_⟩⟩
      rw [nI_add, jd_s, subm1]
      refine c_put H1 (k := p + k) (by omega) (fun h2 F2 H2 => ?_)
      rw [jkv_i]
      have e1 : shF (m - k) x = sh8 (shF (m - (k + 1)) x) := by
        have : m - k = (m - (k + 1)) + 1 := by omega
        rw [this]; rfl
      have e2 : b8 (shF (m - (k + 1)) x &&& 255).toInt32 = bin1 m x k := by
        rw [b8_and]
        unfold bin1
        congr 3; omega
      have := ih h2 _ (by omega) (F1.trans F2) H2 (fun i hi => by
        rw [e2, ← wr_step (by omega)]
        unfold wr1
        split
        · rfl
        · exact eB i hi)
      rw [e1] at this
      exact this
  have := loop m h A (Nat.le_refl _) FA.rf H (fun i _ => by unfold wr; rw [if_neg (by omega)])
  rw [Nat.sub_self] at this
  exact eX2_writeBinary this
theorem c_writePacked (H : BS h so al n A) {p m : Nat} {v : Int32} (hp : p + m ≤ n) (hQ : ∀ h', FA al h h' → BS h' so al n (wr p 0 m (pak1 m (nab v) (if v.toInt < 0 then 13 else 12)) A) → Q (.inl none) h') : jM g mX2_writePacked [.inr (.inr (some so)), .inl (nI p), .inl (nI m), .inr (.inl v.toInt64)] h 0 0 Q := by
  have hn := H.nl
  have hv := nab_lt v
  have hd : ∀ j, nab v / 10 ^ j < 2 ^ 63 := fun j => by have := Nat.div_le_self (nab v) (10 ^ j); omega
  have loop : ∀ k (h1 : jh) (B : Nat → Int32), k ≤ m → FA al h h1 → BS h1 so al n B → (∀ i, i < n → B i = wr p k m (pak1 m (nab v) (if v.toInt < 0 then 13 else 12)) A i) → jG g mX2_writePacked 26 [(0, .inr (.inr (some so))), (1, .inl (nI p)), (5, .inr (.inl (nL (nab v / 10 ^ (2 * (m - k)))))), (7, .inl (nI (if m - k = 0 then (if v.toInt < 0 then 13 else 12) else dgt (nab v) (2 * (m - k) - 1)))), (8, .inl (nI k - 1))] [] h1 0 0 Q := by
    intro k
    induction k with
    | zero =>
      intro h1 B _ F1 H1 eB
      exact vX2_writePacked_26 ⟨fun _ => hQ h1 F1 (H1.eq eB), fun c => absurd (by decide) c⟩
    | succ k ih =>
      intro h1 B hk F1 H1 eB
      rw [nI_pred]
      refine vX2_writePacked_26 ⟨fun c => absurd c (nI_pos (by omega)), fun _ => ⟨jsn, H1.1, ?_⟩⟩
      rw [nI_add, jd_s, subm1, rem10 (hd _), div10 (hd _), dv1, rem10 (hd _), div10 (hd _), dv1, toInt32_nL, toInt32_nL, show (16 : Int32) = nI 16 from rfl, pk_mul, nI_add]
      refine c_put H1 (k := p + k) (by omega) (fun h2 F2 H2 => ?_)
      rw [jkv_i]
      have e1 : 2 * (m - (k + 1)) + 1 + 1 = 2 * (m - k) := by omega
      have e2 : b8 (nI (nab v / 10 ^ (2 * (m - (k + 1))) % 10 * 16 + (if m - (k + 1) = 0 then (if v.toInt < 0 then 13 else 12) else dgt (nab v) (2 * (m - (k + 1)) - 1)))) = pak1 m (nab v) (if v.toInt < 0 then 13 else 12) k := by
        unfold pak1
        have : m - 1 - k = m - (k + 1) := by omega
        rw [this]; rfl
      have := ih h2 _ (by omega) (F1.trans F2) H2 (fun i hi => by
        rw [e2, ← wr_step (by omega)]
        unfold wr1
        split
        · rfl
        · exact eB i hi)
      rw [if_neg (by omega : ¬ m - k = 0)] at this
      have e3 : dgt (nab v) (2 * (m - k) - 1) = nab v / 10 ^ (2 * (m - (k + 1)) + 1) % 10 := by
        unfold dgt
        have : 2 * (m - k) - 1 = 2 * (m - (k + 1)) + 1 := by omega
        rw [this]
      rw [e3, ← e1] at this
      exact this
  have := loop m h A (Nat.le_refl _) FA.rf H (fun i _ => by unfold wr; rw [if_neg (by omega)])
  rw [Nat.sub_self, if_pos rfl, Nat.mul_zero, Nat.pow_zero, Nat.div_one] at this
  have e0 : (0 : Int64) ≤ v.toInt64 ↔ ¬ v.toInt < 0 := by
    rw [Int64.le_iff_toInt_le, Int32.toInt_toInt64, show (0 : Int64).toInt = 0 from rfl]; omega
  refine eX2_writePacked ?_
  unfold VX2_writePacked_0
  rw [abs_L, e0]
  refine ⟨fun c => ?_, fun c => ?_⟩
  · rw [if_neg c] at this; exact this
  · rw [if_pos (Decidable.not_not.mp c)] at this; exact this
end Wri1
