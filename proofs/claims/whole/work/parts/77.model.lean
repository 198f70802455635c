/-! the reference: what clause asks -/
/-- how many digits -/
def ndF : Nat → Nat → Nat
  | 0, _ => 0
  | f + 1, n => if n = 0 then 0 else ndF f (n / 10) + 1
theorem ndF_le : ∀ f n d, n < f → (ndF f n ≤ d ↔ n < 10 ^ d) := by
  intro f
  induction f with
  | zero => intro n d h; omega
  | succ f ih =>
    intro n d h
    unfold ndF
    by_cases c : n = 0
    · rw [if_pos c, c]
      have : 0 < 10 ^ d := Nat.pow_pos (by decide)
      omega
    · rw [if_neg c]
      cases d with
      | zero => simp; omega
      | succ d =>
        have := ih (n / 10) d (by omega)
        rw [Nat.pow_succ]
        have e : n / 10 < 10 ^ d ↔ n < 10 ^ d * 10 := by rw [Nat.div_lt_iff_lt_mul (by decide)]
        omega
section Mod5
variable {g : jg} {h h' : jh} {S S' : sg} {m : Nat} {Q : jq}
theorem ndF_small : ∀ f n, ndF f n ≤ f := by
  intro f
  induction f with
  | zero => intro n; exact Nat.le_refl _
  | succ f ih => intro n; unfold ndF; split; omega; have := ih (n / 10); omega
theorem nd_le (v : Int32) {d : Nat} (hd : d ≤ 18) : (ndF (nab v + 1) (nab v) ≤ d) ↔ room d v.toInt = true := by
  rw [ndF_le _ _ _ (by omega)]
  unfold room nab
  have e : min d 18 = d := by omega
  rw [e, decide_eq_true_iff]
  omega
theorem m_digits {v : Int32} (hQ : Q (.inl (some (.inl (nI (ndF (nab v + 1) (nab v)))))) h) : jM g mX10_digitsOf [.inl v] h 0 0 Q := by
  have hv := nab_lt v
  have loop : ∀ f n acc, n < f → n < 2 ^ 63 → acc + ndF f n = ndF (nab v + 1) (nab v) → jG g mX10_digitsOf 15 [(1, .inl (nI acc)), (2, .inr (.inl (nL n)))] [] h 0 0 Q := by
    intro f
    induction f with
    | zero => intro n acc h; omega
    | succ f ih =>
      intro n acc hf hn eq
      have z : nL n ≤ 0 ↔ n = 0 := by
        rw [Int64.le_iff_toInt_le, nL_toInt hn, show (0 : Int64).toInt = 0 from rfl]; omega
      have e : ndF (f + 1) n = if n = 0 then 0 else ndF f (n / 10) + 1 := rfl
      rw [e] at eq
      refine vX10_digitsOf_15 ?_
      unfold VX10_digitsOf_15
      rw [z, div10 hn, nI_1]
      refine ⟨fun c => ?_, fun c => ih _ _ (by omega) (by omega) ?_⟩
      · rw [if_pos c] at eq
        rw [show acc = ndF (nab v + 1) (nab v) by omega]; exact hQ
      · rw [if_neg c] at eq; omega
  have z0 : (0 : Int32) ≤ v ↔ 0 ≤ v.toInt := by rw [Int32.le_iff_toInt_le]; rfl
  refine eX10_digitsOf ?_
  unfold VX10_digitsOf_0
  rw [z0]
  have e1 : 0 ≤ v.toInt → v.toInt64 = nL (nab v) := fun q => by
    rw [← Int64.toInt_inj, Int32.toInt_toInt64, nL_toInt (by omega)]
    unfold nab; omega
  have e2 : ¬ 0 ≤ v.toInt → -v.toInt64 = nL (nab v) := fun q => by
    rw [← abs_L, if_neg]
    rw [Int64.lt_iff_toInt_lt, Int32.toInt_toInt64, show (0 : Int64).toInt = 0 from rfl]; omega
  refine ⟨fun q => ?_, fun q => ?_⟩
  · rw [e1 q]; exact loop (nab v + 1) (nab v) 0 (by omega) (by omega) (by omega)
  · rw [e2 q]; exact loop (nab v + 1) (nab v) 0 (by omega) (by omega) (by omega)
theorem m_isPart (M : RM h S m) (W : WA S) {i k : Nat} (i1 : 1 ≤ i) (i2 : i ≤ sN S) (k1 : 1 ≤ k) (k2 : k ≤ sN S) (hQ : Q (.inl (some (.inl (jb (decide ((2 ≤ lv S k ∧ lv S k ≤ 49) ∧ rc S k = rc S i)))))) h) : jM g mX10_isPart [.inr (.inr (some m)), .inl (nI i), .inl (nI k)] h 0 0 Q := by
  have h1 := jq_t hQ
  have h0 := jq_f hQ
  have hN := W.n
  have F := W.1
  obtain ⟨a1, a2, a3, a4⟩ := M.alv k1 (by omega)
  obtain ⟨b1, b2, b3, b4⟩ := M.arc k1 (by omega)
  obtain ⟨c1, c2, c3, c4⟩ := M.arc i1 (by omega)
  have wl := F.lv k
  have w1 : rc S k ≤ k := F.2.2.2.2.2.2.2.2.2.2.2.1 k
  have w2 : rc S i ≤ i := F.2.2.2.2.2.2.2.2.2.2.2.1 i
  have e1 : nI (lv S k) < 2 ↔ lv S k < 2 := nI_ltI (b := 2) (by omega) (by decide)
  have e2 : (49 : Int32) < nI (lv S k) ↔ 49 < lv S k := nI_ltI (a := 49) (by decide) (by omega)
  refine eX10_isPart ⟨M.t, a1, a2, a3, ?_⟩
  rw [a4, b4, c4, e1, e2, nI_eq (by omega) (by omega)]
  exact ⟨fun q => h0 (decide_eq_false (by omega)), fun q => ⟨fun q2 => h0 (decide_eq_false (by omega)), fun q2 => ⟨b1, b2, b3, c3, fun q3 => h0 (decide_eq_false (fun w => q3 w.2)), fun q3 => h1 (decide_eq_true ⟨by omega, q3⟩)⟩⟩⟩
theorem m_isClause {l u x : Int32} (hQ : Q (.inl (some (.inl (jb (okC l.toInt u.toInt x.toInt))))) h) : jM g mX10_isClause [.inl l, .inl u, .inl x] h 0 0 Q := by
  have h1 := jq_t hQ
  have h0 := jq_f hQ
  have t : okC l.toInt u.toInt x.toInt = true ↔ _ := decide_eq_true_iff
  have f : okC l.toInt u.toInt x.toInt = false ↔ _ := decide_eq_false_iff_not
  refine eX10_isClause ?_
  unfold VX10_isClause_0
  simp only [Int32.lt_iff_toInt_lt, Int32.le_iff_toInt_le, ← Int32.toInt_inj, Int32.reduceToInt]
  refine ⟨fun c => ⟨fun c2 => h0 (f.mpr (by omega)), fun c2 => ⟨fun c3 => h0 (f.mpr (by omega)), fun c3 => h1 (t.mpr (by omega))⟩⟩, fun c => ⟨fun c2 => h0 (f.mpr (by omega)), fun c2 => ⟨fun c3 => h0 (f.mpr (by omega)), fun c3 => ⟨fun c4 => h0 (f.mpr (by omega)), fun c4 => ⟨fun c5 => h0 (f.mpr (by omega)), fun c5 => h1 (t.mpr (by omega))⟩⟩⟩⟩, fun c => ⟨fun c2 => by omega, fun c2 => ⟨fun c3 => by omega, fun c3 => h1 (t.mpr (by omega))⟩⟩, fun c => ⟨fun c2 => by omega, fun c2 => ⟨fun c3 => by omega, fun c3 => h1 (t.mpr (by omega))⟩⟩, fun c => ⟨fun c2 => h0 (f.mpr (by omega)), fun c2 => h1 (t.mpr (by omega))⟩, fun c => ⟨fun c2 => h0 (f.mpr (by omega)), fun c2 => ⟨fun c3 => h0 (f.mpr (by omega)), fun c3 => h1 (t.mpr (by omega))⟩⟩⟩
theorem RM.st (M : RM h S m) (F : FMb m h h') (hN : sN S' = sN S) (hl : laid S' = 0) (h33 : ji h' 533 m = 0) (hk : ∀ k, k ≠ 533 → k ≠ 512 → ji h' k m = ji h k m) (l1 : looks S' = looks S) (l2 : looked S' = looked S) (hr : ∀ j i, 1 ≤ j → j ≤ 16 → 1 ≤ i → i ≤ 120 → jI h' (m + j) i = mV S' j i) (hna : ∀ i, 1 ≤ i → i ≤ sN S → jI h' (m + 17) i = nI (na S' i) - 1) (hrg : ∀ i k, 1 ≤ i → i ≤ 120 → k < rg S' i → jI h' (m + 18) (8 * i - 8 + k) = rf S' k i ∧ jI h' (m + 19) (8 * i - 8 + k) = rt S' k i) : RM h' S' m := by
  obtain ⟨a1, a2, a3, a4, a5, a6, a7, a8, a9⟩ := M
  refine ⟨a1.fm F, by rw [hk 513 (by decide) (by decide), hN]; exact a2, by rw [h33, hl]; rfl, by rw [hk 534 (by decide) (by decide), l1]; exact a4, by rw [hk 535 (by decide) (by decide), l2]; exact a5, hr, by rw [hN]; exact hna, hrg, fun q => by rw [hl] at q; cases q⟩
/-- one number of an item is written -/
theorem RM.s1 (M : RM h S m) {h1 : jh} {j a i v : Nat} {w : Int32} (hj : 1 ≤ j) (hj2 : j ≤ 16) (hj12 : ¬ j = 12) (ha : a = if j ≤ 11 then j else j - 1) (hi : i ≤ 120) (hw : w = nI v) (e1 : h1 = jsI h (m + j) i w) (hrg : a ≠ 12) (e2 : h' = jsi h1 533 m 0) : RM h' (sset S a i v) m ∧ FMb m h h' := by
  have F : FMb m h h' := (FMb.sI e1 hj (by omega)).trans (FMb.si e2 (by decide))
  have ha1 : 1 ≤ a ∧ a ≤ 15 := by rw [ha]; split <;> omega
  have R : ∀ c x, jI h' c x = if c = m + j ∧ x = i then w else jI h c x := fun c x => by rw [e2, jI_si, e1, jI_sI]
  refine ⟨M.st F ?_ ?_ ?_ (fun k x1 x2 => ?_) ?_ ?_ (fun j' x y1 y2 y3 y4 => ?_) (fun x y1 y2 => ?_) (fun x k y1 y2 y3 => ?_), F⟩
  · show (if 0 = a ∧ 0 = i then v else if 0 = 17 then 0 else S.1 0 0) = _
    rw [if_neg (by omega), if_neg (by omega)]; rfl
  · show (if 17 = a ∧ 0 = i then v else if 17 = 17 then 0 else S.1 17 0) = _
    rw [if_neg (by omega), if_pos rfl]
  · rw [e2, ji_si, if_pos ⟨rfl, rfl⟩]
  · rw [e2, ji_si, if_neg (by omega), e1, ji_sI]
  · show (if 18 = a ∧ 0 = i then v else if 18 = 17 then 0 else S.1 18 0) = _
    rw [if_neg (by omega), if_neg (by omega)]; rfl
  · show (if 19 = a ∧ 0 = i then v else if 19 = 17 then 0 else S.1 19 0) = _
    rw [if_neg (by omega), if_neg (by omega)]; rfl
  · rw [R]
    have old := M.row y1 y2 y3 y4
    unfold mV at old ⊢
    by_cases q : j' = 12
    · rw [if_pos q] at old ⊢
      rw [if_neg (by omega)]; exact old
    · rw [if_neg q] at old ⊢
      have es : (sset S a i v).1 (if j' ≤ 11 then j' else j' - 1) x = if j' = j ∧ x = i then v else S.1 (if j' ≤ 11 then j' else j' - 1) x := by
        show (if (if j' ≤ 11 then j' else j' - 1) = a ∧ x = i then v else if (if j' ≤ 11 then j' else j' - 1) = 17 then 0 else S.1 (if j' ≤ 11 then j' else j' - 1) x) = _
        have ej : (if j' ≤ 11 then j' else j' - 1) = a ↔ j' = j := by
          rw [ha]
          split <;> split <;> omega
        by_cases z : j' = j ∧ x = i
        · rw [if_pos ⟨ej.mpr z.1, z.2⟩, if_pos z]
        · rw [if_neg (fun z2 => z ⟨ej.mp z2.1, z2.2⟩), if_neg z, if_neg (by split <;> omega)]
      rw [es]
      by_cases z : j' = j ∧ x = i
      · rw [if_pos ⟨by rw [z.1], z.2⟩, if_pos z, hw]
      · rw [if_neg (fun z2 => z ⟨by omega, z2.2⟩), if_neg z]; exact old
  · rw [R, if_neg (by omega)]
    have en : na (sset S a i v) x = na S x := by
      show (if 16 = a ∧ x = i then v else if 16 = 17 then 0 else S.1 16 x) = _
      rw [if_neg (by omega), if_neg (by omega)]; rfl
    rw [en]; exact M.2.2.2.2.2.2.1 x y1 y2
  · rw [R, R, if_neg (by omega), if_neg (by omega)]
    have eg : rg (sset S a i v) x = rg S x := by
      show (if 12 = a ∧ x = i then v else if 12 = 17 then 0 else S.1 12 x) = _
      rw [if_neg (by omega), if_neg (by omega)]; rfl
    rw [eg] at y3
    exact M.2.2.2.2.2.2.2.1 x k y1 y2 y3
end Mod5
