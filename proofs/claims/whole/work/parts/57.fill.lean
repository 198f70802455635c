/-! the first bytes -/
section Fil1
variable {g : jg} {h : jh} {S : sg} {x tr rw pn so al n : Nat} {ad : Nat → Nat} {A : Nat → Int32} {Q : jq}
theorem ibt_1 {i o : Nat} (h : us S i = 1) : ibt S i o = 32 := by unfold ibt; simp [h]
theorem ibt_2 {i o : Nat} (h : us S i = 2) : ibt S i o = if o % 2 = 1 then 32 else 0 := by unfold ibt; simp [h]
theorem ibt_8 {i o : Nat} (h : us S i = 8) : ibt S i o = bin1 (byi S i) (vl S i).toInt64 o := by unfold ibt; simp [h]
theorem ibt_7 {i o : Nat} (h : us S i = 7) : ibt S i o = pak1 (byi S i) (nab (vl S i)) (if (vl S i).toInt < 0 then 13 else 12) o := by unfold ibt; simp [h]
theorem ibt_0 {i o : Nat} (h : us S i = 0 ∨ 9 ≤ us S i) : ibt S i o = 0 := by
  unfold ibt
  rw [if_neg (by omega), if_neg (by omega), if_neg (by omega), if_neg (by omega), if_neg (by omega), if_neg (by omega), if_neg (by omega), if_neg (by omega)]
theorem ibt_b8 (i o : Nat) : b8 (ibt S i o) = ibt S i o := by
  have d1 : ∀ m a k s o, b8 (dig1 m a k s o) = dig1 m a k s o := fun m a k s o => b8_b8 _
  have d2 : b8 (if (vl S i).toInt < 0 then 45 else 43) = if (vl S i).toInt < 0 then 45 else 43 := by split <;> decide
  by_cases h1 : us S i = 1
  · rw [ibt_1 h1]; decide
  by_cases h2 : us S i = 2
  · rw [ibt_2 h2]; split <;> decide
  by_cases h3 : us S i = 3
  · rw [ibt_3 h3]; exact d1 _ _ _ _ _
  by_cases h4 : us S i = 4
  · rw [ibt_4 h4]; exact d1 _ _ _ _ _
  by_cases h5 : us S i = 5
  · rw [ibt_5 h5]
    by_cases c : o = 0
    · rw [if_pos c]; exact d2
    · rw [if_neg c]; exact d1 _ _ _ _ _
  by_cases h6 : us S i = 6
  · rw [ibt_6 h6]
    by_cases c : o = dg S i
    · rw [if_pos c]; exact d2
    · rw [if_neg c]; exact d1 _ _ _ _ _
  by_cases h7 : us S i = 7
  · rw [ibt_7 h7]; exact b8_b8 _
  by_cases h8 : us S i = 8
  · rw [ibt_8 h8]; exact b8_b8 _
  rw [ibt_0 (by omega)]; decide
/-- a store's row is no other cell's -/
def WU (S : sg) : Prop := ∀ i, 1 ≤ i → i ≤ sN S → 3 ≤ us S i → us S i ≤ 8 → 1 ≤ dg S i
theorem c_write (R : RTree h S tr rw ad) (H : BS h so al n A) (Z : WU S) {i p : Nat} (hi1 : 1 ≤ i) (hi2 : i ≤ sN S) (hp : jl h 192 (ad i + 1) = nL p) (hu : 3 ≤ us S i ∧ us S i ≤ 8) (hn : p + byi S i ≤ n) (hQ : ∀ h', FA al h h' → BS h' so al n (wr p 0 (byi S i) (ibt S i) A) → Q (.inl none) h') : jM g mX2_write [.inr (.inr (some so)), .inr (.inr (rO ad i))] h 0 0 Q := by
  have hi0 : ¬ i = 0 := by omega
  have e8 : ji h 2 (ad i) = 8 ↔ us S i = 8 := R.usk (k := 8) hi1 hi2 (by decide)
  have e7 : ji h 2 (ad i) = 7 ↔ us S i = 7 := R.usk (k := 7) hi1 hi2 (by decide)
  refine eX2_write ⟨fun q => hi0 (rO_none.mp q), ?_⟩
  rw [rO_jd hi0, e8, e7, R.sp hi1 hi2, jd_s, hp, toInt32_nL, R.bys hi1 hi2, R.vli hi1 hi2]
  refine ⟨R.ty hi1 hi2, jsn, R.st hi1 hi2, fun c => ⟨fun c2 => ?_, fun c2 => ?_⟩, fun c => ?_⟩
  · refine c_writeDigits R H hi1 hi2 hp (by omega) (Z i hi1 hi2 hu.1 hu.2) hn (fun h' F' H' => ?_)
    rw [jkv_i]; exact hQ h' F' H'
  · refine c_writePacked H hn (fun h' F' H' => ?_)
    rw [jkv_i]
    refine hQ h' F' (H'.eq (fun k _ => ?_))
    unfold wr
    split
    · rw [ibt_7 c2]
    · rfl
  · refine c_writeBinary H hn (fun h' F' H' => ?_)
    rw [jkv_i]
    refine hQ h' F' (H'.eq (fun k _ => ?_))
    unfold wr
    split
    · rw [ibt_8 c]
    · rfl
theorem c_fillText (H : BS h so al n A) (hx : jt h x = 8) (hs : jr h 450 x = some so) {p m w : Nat} (hw : w = 1 ∨ w = 2) (hm : m % w = 0) (hn : p + m ≤ n) (hQ : ∀ h', FA al h h' → BS h' so al n (fun k => if p ≤ k ∧ k < p + m ∧ (k - p) % w = w - 1 then 32 else A k) → Q (.inl none) h') : jM g mX9_fillText [.inr (.inr (some x)), .inl (nI p), .inl (nI m), .inl (nI w)] h 0 0 Q := by
  have hnl := H.nl
  have loop : ∀ d t (h1 : jh) (B : Nat → Int32), w * t + w * d = m → FA al h h1 → BS h1 so al n B → (∀ k, k < n → B k = if p ≤ k ∧ k < p + w * t ∧ (k - p) % w = w - 1 then 32 else A k) → jG g mX9_fillText 3 [(0, .inr (.inr (some x))), (1, .inl (nI p)), (2, .inl (nI m)), (3, .inl (nI w)), (4, .inl (nI (w * t + w)))] [] h1 0 0 Q := by
    intro d
    induction d with
    | zero =>
      intro t h1 B e F1 H1 eB
      have em : w * t = m := by omega
      refine vX9_fillText_3 ⟨fun _ => hQ h1 F1 (H1.eq (fun k hk => ?_)), fun c => absurd (nI_lt (by omega) (by omega)) c⟩
      rw [eB k hk, em]
    | succ d ih =>
      intro t h1 B e F1 H1 eB
      have e' : w * (t + 1) + w * d = m := by rw [Nat.mul_add] at e; rw [Nat.mul_add]; omega
      have et : w * (t + 1) = w * t + w := by rw [Nat.mul_add, Nat.mul_one]
      have hle : w * t + w ≤ m := by rw [Nat.mul_add] at e; omega
      have ep : nI (p + (w * t + w)) - 1 = nI (p + (w * t + w) - 1) := pk_sub (b := 1) (by rcases hw with rfl | rfl <;> omega)
      refine vX9_fillText_3 ⟨fun c => absurd c (nI_nlt (by omega) (by omega)), fun _ => ⟨by rw [F1.2.1]; exact hx, ?_⟩⟩
      have hs1 : jr h1 450 x = some so := by rw [F1.2.2.2.2.2.1]; exact hs
      rw [hs1, jd_s, nI_add, nI_add, ep]
      refine ⟨jsn, H1.1, c_put H1 (by omega) (fun h2 F2 H2 => ?_)⟩
      rw [jkv_i]
      have := ih (t + 1) h2 _ e' (F1.trans F2) H2 (fun k hk => ?_)
      · rw [et] at this; exact this
      · have b32 : b8 32 = 32 := by decide
        rw [b32, et]
        show (if k = p + (w * t + w) - 1 then (32 : Int32) else B k) = _
        rw [eB k hk]
        have hmod : (w * t + w - 1) % w = w - 1 := by
          have : w * t + w - 1 = (w - 1) + w * t := by omega
          rw [this, Nat.add_mul_mod_self_left, Nat.mod_eq_of_lt (by omega)]
        by_cases q : k = p + (w * t + w) - 1
        · rw [if_pos q, if_pos]
          refine ⟨by omega, by omega, ?_⟩
          have : k - p = w * t + w - 1 := by omega
          rw [this]; exact hmod
        · rw [if_neg q]
          by_cases q2 : p ≤ k ∧ k < p + w * t ∧ (k - p) % w = w - 1
          · rw [if_pos q2, if_pos ⟨q2.1, by omega, q2.2.2⟩]
          · rw [if_neg q2, if_neg]
            rintro ⟨z1, z2, z3⟩
            by_cases z4 : k < p + w * t
            · exact q2 ⟨z1, z4, z3⟩
            · rcases hw with rfl | rfl
              · omega
              · omega
  have := loop (m / w) 0 h A (by rw [Nat.mul_zero, Nat.zero_add]; have := Nat.div_add_mod m w; omega) FA.rf H (fun k _ => by rw [if_neg (by rw [Nat.mul_zero]; omega)])
  rw [Nat.mul_zero, Nat.zero_add] at this
  exact eX9_fillText this
theorem HL.fa {h' : jh} {U : Nat → Nat} {L : lm} (H : HL h S pn ad U L) (F : FA al h h') : HL h' S pn ad U L := by
  obtain ⟨-, p2, p3, p4, p5, p6, p7, p8, p9⟩ := F
  unfold HL
  rw [p2, p4, p5, p6]
  exact H
theorem HF.fa {h' : jh} (H : HF h S pn ad) (F : FA al h h') : HF h' S pn ad := by
  refine ⟨H.1.fa F, ?_, ?_⟩
  · rw [F.2.2.2.2.1]; exact H.2.1
  · rw [F.2.2.2.2.2.1]; exact H.2.2
theorem c_fillFirst (R : RTree h S tr rw ad) (HFh : HF h S pn ad) (W : WB S (gU S)) (ok : fwr S (gU S) true = 0) (WLh : WL S) (Z : WU S) (hx : jt h x = 8) (ht : jr h 448 x = some tr) (hs : jr h 450 x = some so) (H : BS h so al n (fun _ => 0)) (hn : mfin S (gU S) true 4 0 = n) (hQ : ∀ h', FA al h h' → BS h' so al n (fst1 S (mfin S (gU S) true) (ibt S) (sN S)) → Q (.inl none) h') : jM g mX9_fillFirstEntries [.inr (.inr (some x))] h 0 0 Q := by
  have hN := R.N
  have ha := H.2.2.1
  have loop : ∀ d j (h1 : jh), j + d = sN S → FA al h h1 → BS h1 so al n (fst1 S (mfin S (gU S) true) (ibt S) j) → jG g mX9_fillFirstEntries 2 [(0, .inr (.inr (some x))), (1, .inl (nI (j + 1)))] [] h1 0 0 Q := by
    intro d
    induction d with
    | zero =>
      intro j h1 e F1 H1
      have R1 := R.fa ha F1
      refine vX9_fillFirstEntries_2 ⟨by rw [F1.2.1]; exact hx, ?_⟩
      rw [F1.2.2.2.2.2.1, ht, jd_s, ← F1.2.2.2.2.2.1, R1.told]
      refine ⟨jsn, R1.tg, fun _ => hQ h1 F1 ?_, fun c => absurd (nI_lt (by omega) (by omega)) c⟩
      have : j = sN S := by omega
      rw [← this]; exact H1
    | succ d ih =>
      intro j h1 e F1 H1
      have hj : j + 1 ≤ sN S := by omega
      have R1 := R.fa ha F1
      have HF1 := HFh.fa F1
      obtain ⟨w1, w2, w3, w4⟩ := R1.row (i := j + 1) (by omega) hj
      have hx1 : jt h1 x = 8 := by rw [F1.2.1]; exact hx
      have ht1 : jr h1 448 x = some tr := by rw [F1.2.2.2.2.2.1]; exact ht
      have hs1 : jr h1 450 x = some so := by rw [F1.2.2.2.2.2.1]; exact hs
      have go : ∀ h2 B, FA al h1 h2 → BS h2 so al n B → (∀ k, k < n → B k = fst1 S (mfin S (gU S) true) (ibt S) (j + 1) k) → jG g mX9_fillFirstEntries 2 [(0, .inr (.inr (some x))), (1, .inl (nI (j + 1 + 1)))] [] h2 0 0 Q := fun h2 B F2 H2 eB => ih (j + 1) h2 (by omega) (F1.trans F2) (H2.eq eB)
      have no : ¬ own S (j + 1) = true → jG g mX9_fillFirstEntries 2 [(0, .inr (.inr (some x))), (1, .inl (nI (j + 1 + 1)))] [] h1 0 0 Q := fun q => go h1 _ FA.rf H1 (fun k _ => by
        show _ = if _ then _ else _
        rw [if_neg (fun z => q z.1)])
      refine vX9_fillFirstEntries_2 ⟨hx1, ?_⟩
      rw [ht1, jd_s, R1.told]
      refine ⟨jsn, R1.tg, fun c => absurd c (nI_nlt (by omega) (by omega)), fun _ => ⟨w1, w2, w3, ?_⟩⟩
      rw [w4, jd_s, nI_1]
      refine ⟨jsn, R1.ty (by omega) hj, c_lies R1 WLh (by omega) hj ?_⟩
      rw [jki_i, jb_0]
      refine ⟨fun c => no (fun q => by rw [(own_l q).1] at c; cases c), fun c => ?_⟩
      have hl : lies S (j + 1) = true := by simpa using c
      obtain ⟨f1, f2, f3, f4, f5, f6, f7⟩ := fin_b (b := true) W hN (by omega) hj hl
      obtain ⟨g1, g2, g3, g4⟩ := HF1.1.2.2.1 (j + 1) (by omega) hj f1
      have e1 : ji h1 2 (ad (j + 1)) = 1 ↔ us S (j + 1) = 1 := R1.usk (k := 1) (by omega) hj (by decide)
      have e2 : ji h1 2 (ad (j + 1)) = 2 ↔ us S (j + 1) = 2 := R1.usk (k := 2) (by omega) hj (by decide)
      rw [R1.sp (by omega) hj, jd_s, g4, jb_0, g1, toInt32_nL, R1.bys (by omega) hj, e1, e2]
      refine ⟨R1.ty (by omega) hj, jsn, R1.st (by omega) hj, fun c2 => ?_, fun c2 => no (fun q => c2 (own_l q).2.1)⟩
      have hb := len_xtn W (by omega) hj hl
      have hall := g_all W ok (j + 1) (by omega) hj hl
      have hbn : mfin S (gU S) true 0 (j + 1) + byi S (j + 1) ≤ n := by omega
      have own1 : ¬ us S (j + 1) = 0 → own S (j + 1) = true := fun q => by
        unfold own
        rw [hl, c2]; simp [q]
      have zero : own S (j + 1) = true → ∀ k, mfin S (gU S) true 0 (j + 1) ≤ k → fst1 S (mfin S (gU S) true) (ibt S) j k = 0 := by
        intro ho k hk
        by_cases z : fst1 S (mfin S (gU S) true) (ibt S) j k = 0
        · exact z
        · exfalso
          obtain ⟨i, o, a, b, hi, ho', e3⟩ := (fst1_at W ok (ib := ibt S) j (by omega)).2 k z
          obtain ⟨li, oi, ui⟩ := own_l hi
          have nt : onc S (j + 1) i = false := by
            cases z : onc S (j + 1) i with
            | false => rfl
            | true => have := elem_no W ui (j + 1) hj hl z; omega
          have gg := g_ord W ok (i + (j + 1)) i (j + 1) (Nat.le_refl _) a (by omega) hj li hl (lent_aside W.p _ oi) (lent_aside W.p _ c2) (Or.inr c2) nt
          have := len_xtn W a (by omega) li
          omega
      have isw : own S (j + 1) = true → ∀ k, fst1 S (mfin S (gU S) true) (ibt S) (j + 1) k = wr (mfin S (gU S) true 0 (j + 1)) 0 (byi S (j + 1)) (ibt S (j + 1)) (fst1 S (mfin S (gU S) true) (ibt S) j) k := by
        intro ho k
        show (if _ then _ else _) = if _ then _ else _
        by_cases z : mfin S (gU S) true 0 (j + 1) ≤ k ∧ k < mfin S (gU S) true 0 (j + 1) + byi S (j + 1)
        · rw [if_pos ⟨ho, z⟩, if_pos (c := mfin S (gU S) true 0 (j + 1) + 0 ≤ k ∧ _) z]
        · rw [if_neg (fun q => z q.2), if_neg (c := mfin S (gU S) true 0 (j + 1) + 0 ≤ k ∧ _) z]
      have tx : ∀ w, (w = 1 ∨ w = 2) → us S (j + 1) = w → jM g mX9_fillText [.inr (.inr (some x)), .inl (nI (mfin S (gU S) true 0 (j + 1))), .inl (nI (byi S (j + 1))), .inl (nI w)] h1 0 0 (jkv (fun h24 => jG g mX9_fillFirstEntries 2 [(0, .inr (.inr (some x))), (1, .inl (nI (j + 1 + 1)))] [] h24 0 0 Q) (fun e h9 => Q (.inr e) h9)) := by
        intro w hw hu
        have ho := own1 (by omega)
        have hmod : byi S (j + 1) % w = 0 := by
          unfold byi byts
          rcases hw with rfl | rfl
          · omega
          · rw [hu]; simp
        refine c_fillText H1 hx1 hs1 hw hmod hbn (fun h2 F2 H2 => ?_)
        rw [jkv_i]
        refine go h2 _ F2 H2 (fun k hk => ?_)
        rw [isw ho]
        show (if _ then _ else _) = if _ then _ else _
        by_cases z : mfin S (gU S) true 0 (j + 1) ≤ k ∧ k < mfin S (gU S) true 0 (j + 1) + byi S (j + 1)
        · rw [if_pos (c := mfin S (gU S) true 0 (j + 1) + 0 ≤ k ∧ _) z]
          rcases hw with rfl | rfl
          · rw [if_pos ⟨z.1, z.2, by omega⟩, ibt_1 hu]
          · rw [ibt_2 hu]
            by_cases o1 : (k - mfin S (gU S) true 0 (j + 1)) % 2 = 1
            · rw [if_pos ⟨z.1, z.2, o1⟩, if_pos o1]
            · rw [if_neg (fun q => o1 q.2.2), if_neg o1]
              exact zero ho k z.1
        · rw [if_neg (fun q => z ⟨q.1, q.2.1⟩), if_neg (c := mfin S (gU S) true 0 (j + 1) + 0 ≤ k ∧ _) z]
      refine ⟨fun n1 => ⟨fun n2 => c_isNumber R1 (by omega) hj ?_, fun y2 => ⟨hx1, tx 2 (Or.inr rfl) y2⟩⟩, fun y1 => ⟨hx1, tx 1 (Or.inl rfl) y1⟩⟩
      rw [jki_i, jb_0]
      refine ⟨fun z => ?_, fun z => ⟨hx1, ?_⟩⟩
      · have hu : us S (j + 1) = 0 ∨ 9 ≤ us S (j + 1) := by
          have := of_decide_eq_false z
          omega
        by_cases u0 : us S (j + 1) = 0
        · exact no (fun q => (own_l q).2.2 u0)
        · have ho := own1 u0
          refine go h1 _ FA.rf H1 (fun k _ => ?_)
          rw [isw ho]
          show _ = if _ then _ else _
          by_cases z2 : mfin S (gU S) true 0 (j + 1) + 0 ≤ k ∧ k < mfin S (gU S) true 0 (j + 1) + byi S (j + 1)
          · rw [if_pos z2, ibt_0 hu]
            exact zero ho k z2.1
          · rw [if_neg z2]
      · have hu : 3 ≤ us S (j + 1) ∧ us S (j + 1) ≤ 8 := by
          have := of_decide_eq_true (by simpa using z : okN (us S (j + 1)) = true)
          omega
        rw [hs1, ← rO_some (ad := ad) (show ¬ j + 1 = 0 by omega)]
        refine c_write R1 H1 Z (by omega) hj g1 hu hbn (fun h2 F2 H2 => ?_)
        rw [jkv_i]
        exact go h2 _ F2 H2 (fun k _ => (isw (own1 (by omega)) k).symm)
  exact eX9_fillFirstEntries (loop (sN S) 0 h (by omega) FA.rf H)
end Fil1
