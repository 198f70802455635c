/-! the store: bytes in the heap -/
def b8 (v : Int32) : Int32 := v.toInt8.toInt32
theorem b8_b8 (v : Int32) : b8 (b8 v) = b8 v := by
  unfold b8
  rw [Int8.toInt8_toInt32]
/-- only the row al has changed -/
def FA (al : Nat) (h h' : jh) : Prop := jz h' = jz h ∧ jt h' = jt h ∧ jn h' = jn h ∧ ji h' = ji h ∧ jl h' = jl h ∧ jr h' = jr h ∧ jL h' = jL h ∧ jR h' = jR h ∧ ∀ c, c ≠ al → jI h' c = jI h c
theorem FA.rf {al : Nat} {h : jh} : FA al h h := ⟨rfl, rfl, rfl, rfl, rfl, rfl, rfl, rfl, fun _ _ => rfl⟩
theorem FA.trans {al : Nat} {h h1 h2 : jh} (p : FA al h h1) (q : FA al h1 h2) : FA al h h2 := by
  obtain ⟨p1, p2, p3, p4, p5, p6, p7, p8, p9⟩ := p
  obtain ⟨q1, q2, q3, q4, q5, q6, q7, q8, q9⟩ := q
  exact ⟨q1.trans p1, q2.trans p2, q3.trans p3, q4.trans p4, q5.trans p5, q6.trans p6, q7.trans p7, q8.trans p8, fun c hc => (q9 c hc).trans (p9 c hc)⟩
theorem FA.sI {al i : Nat} {v : Int32} {h h' : jh} (e : h' = jsI h al i v) : FA al h h' := by
  subst e
  refine ⟨rfl, rfl, rfl, rfl, rfl, rfl, rfl, rfl, fun c hc => ?_⟩
  funext k
  rw [jI_sI, if_neg (fun q => hc q.1)]
theorem RTree.fa {h h' : jh} {S : sg} {tr rw al : Nat} {ad : Nat → Nat} (R : RTree h S tr rw ad) (ha : jt h al = 21) (F : FA al h h') : RTree h' S tr rw ad := by
  obtain ⟨-, p2, p3, p4, p5, p6, p7, p8, p9⟩ := F
  obtain ⟨r1, r2, r3, r4, r5, r6, r7⟩ := R
  refine ⟨by rw [p2]; exact r1, by rw [p6]; exact r2, by rw [p2]; exact r3, by rw [p3]; exact r4, by rw [p4]; exact r5, r6, fun j a b => ?_⟩
  obtain ⟨hI, hT, hR⟩ := r7 j a b
  refine ⟨?_, ?_, ?_⟩
  · unfold RI; rw [p8, p2, p4, p6]; exact hI
  · unfold RT; rw [p2, p4, p6]; exact hT
  · unfold RR
    rw [p2, p3, p4, p6]
    refine ⟨hR.1, fun q => ?_⟩
    obtain ⟨r, y1, y2, y3, y4, y5, y6, y7, y8, y9, y10⟩ := hR.2 q
    have n1 : r + 1 ≠ al := fun e => by rw [← e, y5] at ha; cases ha
    have n2 : r + 2 ≠ al := fun e => by rw [← e, y6] at ha; cases ha
    refine ⟨r, y1, y2, y3, y4, y5, y6, y7, y8, y9, ?_⟩
    rw [p9 _ n1, p9 _ n2]
    exact y10
/-- the store so, its row al, n bytes of it used: A -/
def BS (h : jh) (so al n : Nat) (A : Nat → Int32) : Prop := jt h so = 5 ∧ jr h 256 so = some al ∧ jt h al = 21 ∧ n ≤ jn h al ∧ jn h al ≤ 20000 ∧ ji h 257 so = nI n ∧ ∀ i, i < n → jI h al i = A i
def wr1 (A : Nat → Int32) (k : Nat) (v : Int32) : Nat → Int32 := fun i => if i = k then v else A i
section Sto1
variable {g : jg} {h : jh} {so al n : Nat} {A : Nat → Int32} {Q : jq}
theorem BS.eq {B : Nat → Int32} (H : BS h so al n A) (e : ∀ i, i < n → A i = B i) : BS h so al n B := ⟨H.1, H.2.1, H.2.2.1, H.2.2.2.1, H.2.2.2.2.1, H.2.2.2.2.2.1, fun i hi => (H.2.2.2.2.2.2 i hi).trans (e i hi)⟩
theorem BS.nl (H : BS h so al n A) : n ≤ 20000 := Nat.le_trans H.2.2.2.1 H.2.2.2.2.1
theorem c_has (H : BS h so al n A) {x : Int32} (hQ : Q (.inl (some (.inl (jb (decide (0 ≤ x.toInt ∧ x.toInt < n)))))) h) : jM g mX6_has [.inr (.inr (some so)), .inl x] h 0 0 Q := by
  have h1 := jq_t hQ
  have h0 := jq_f hQ
  have hn := H.nl
  have e1 : x < 0 ↔ x.toInt < 0 := by rw [Int32.lt_iff_toInt_lt]; rfl
  have e2 : nI n ≤ x ↔ (n : Int) ≤ x.toInt := by rw [Int32.le_iff_toInt_le, nI_toInt (by omega)]
  refine eX6_has ?_
  unfold VX6_has_0
  rw [H.2.2.2.2.2.1, e1, e2]
  exact ⟨fun c => h0 (decide_eq_false (by omega)), fun c => ⟨H.1, fun c2 => h0 (decide_eq_false (by omega)), fun c2 => h1 (decide_eq_true (by omega))⟩⟩
theorem c_put (H : BS h so al n A) {k : Nat} {v : Int32} (hk : k < n) (hQ : ∀ h', FA al h h' → BS h' so al n (wr1 A k (b8 v)) → Q (.inl none) h') : jM g mX6_put [.inr (.inr (some so)), .inl (nI k), .inl v] h 0 0 Q := by
  have hn := H.nl
  refine eX6_put ⟨H.1, c_has H ?_⟩
  rw [jki_i, jb_0, nI_toInt (by omega)]
  refine ⟨fun c => absurd c (by rw [decide_eq_false_iff_not]; omega), fun _ => ⟨H.1, ?_⟩⟩
  rw [H.2.1, jd_s, nI_clamp (by omega)]
  refine ⟨jsn, H.2.2.1, vp_in_nI (by have := H.2.2.2.1; omega) (by have := H.2.2.2.2.1; omega), ?_⟩
  intro h' e
  have ev : ((v : Int32).toInt8.toInt32 : Int32).toInt8.toInt32 = b8 v := b8_b8 v
  rw [ev] at e
  refine hQ h' (FA.sI e) ?_
  obtain ⟨y1, y2, y3, y4, y5, y6, y7⟩ := H
  refine ⟨by rw [e]; exact y1, by rw [e]; exact y2, by rw [e]; exact y3, by rw [e]; exact y4, by rw [e]; exact y5, by rw [e]; exact y6, fun i hi => ?_⟩
  rw [e, jI_sI]
  show _ = if i = k then b8 v else A i
  by_cases q : i = k
  · rw [if_pos ⟨rfl, q⟩, if_pos q]
  · rw [if_neg (fun z => q z.2), if_neg q]; exact y7 i hi
theorem c_get (H : BS h so al n A) {k : Nat} (hk : k < n) (hQ : Q (.inl (some (.inl (A k &&& 255)))) h) : jM g mX6_get [.inr (.inr (some so)), .inl (nI k)] h 0 0 Q := by
  have hn := H.nl
  refine eX6_get ⟨H.1, c_has H ?_⟩
  rw [jki_i, jb_0, nI_toInt (by omega)]
  refine ⟨fun c => absurd c (by rw [decide_eq_false_iff_not]; omega), fun _ => ⟨H.1, ?_⟩⟩
  rw [H.2.1, jd_s, nI_clamp (by omega), H.2.2.2.2.2.2 k hk]
  exact ⟨jsn, H.2.2.1, vp_in_nI (by have := H.2.2.2.1; omega) (by have := H.2.2.2.2.1; omega), hQ⟩
/-- the bytes at p, s of them, stand there m times -/
theorem c_repeat (H : BS h so al n A) {p s m : Nat} (hb : ∀ i, i < n → b8 (A i) = A i) (hm : 1 ≤ m) (hp : p + m * s ≤ n) (hQ : ∀ h', FA al h h' → BS h' so al n (rep p s m A) → Q (.inl none) h') : jM g mX6_repeat [.inr (.inr (some so)), .inl (nI p), .inl (nI s), .inl (nI m)] h 0 0 Q := by
  have hn := H.nl
  have hs : s ≤ m * s := Nat.le_mul_of_pos_left _ (by omega)
  have loop : ∀ d k (h1 : jh) (B : Nat → Int32), k + d = p + m * s → p + s ≤ k → FA al h h1 → BS h1 so al n B → (∀ i, i < n → B i = if i < k then rep p s m A i else A i) → jG g mX6_repeat 28 [(0, .inr (.inr (some so))), (2, .inl (nI s)), (4, .inl (nI (p + m * s))), (5, .inl (nI k))] [] h1 0 0 Q := by
    intro d
    induction d with
    | zero =>
      intro k h1 B e hk F1 H1 eB
      refine vX6_repeat_28 ⟨fun _ => hQ h1 F1 (H1.eq (fun i hi => ?_)), fun c => absurd (nI_leI (by omega) (by omega) |>.mpr (by omega)) c⟩
      rw [eB i hi]
      by_cases q : i < k
      · rw [if_pos q]
      · rw [if_neg q]
        unfold rep
        rw [if_neg (by omega)]
    | succ d ih =>
      intro k h1 B e hk F1 H1 eB
      have kn : k < n := by omega
      have es : nI k - nI s = nI (k - s) := pk_sub (by omega)
      refine vX6_repeat_28 ⟨fun c => absurd ((nI_leI (by omega) (by omega)).mp c) (by omega), fun _ => ⟨H1.1, ?_⟩⟩
      have y4 := H1.2.2.2.1
      have y5 := H1.2.2.2.2.1
      rw [H1.2.1, jd_s, es, nI_clamp (by omega), nI_clamp (by omega), nI_1]
      refine ⟨jsn, H1.2.2.1, vp_in_nI (by omega) (by omega), vp_in_nI (by omega) (by omega), ?_⟩
      intro h2 e2
      rw [H1.2.2.2.2.2.2 (k - s) (by omega)] at e2
      have key : (B (k - s)).toInt8.toInt32 = rep p s m A k := by
        have z : B (k - s) = rep p s m A (k - s) := by
          rw [eB _ (by omega)]
          by_cases q : k - s < k
          · rw [if_pos q]
          · exfalso
            have : s = 0 := by omega
            rw [this, Nat.mul_zero] at e; omega
        have z2 : rep p s m A (k - s) = rep p s m A k := by
          unfold rep
          rw [if_pos (by omega), if_pos (by omega)]
          have : k - p = (k - s - p) + s := by omega
          rw [this, Nat.add_mod_right]
        rw [z, z2]
        unfold rep
        rw [if_pos (by omega)]
        refine hb _ ?_
        have s0 : 0 < s := by
          rcases Nat.eq_zero_or_pos s with q | q
          · rw [q, Nat.mul_zero] at e; omega
          · exact q
        have := Nat.mod_lt (k - p) s0
        omega
      rw [key] at e2
      have H2 : BS h2 so al n (wr1 B k (rep p s m A k)) := by
        obtain ⟨y1, y2, y3, y4, y5, y6, y7⟩ := H1
        refine ⟨by rw [e2]; exact y1, by rw [e2]; exact y2, by rw [e2]; exact y3, by rw [e2]; exact y4, by rw [e2]; exact y5, by rw [e2]; exact y6, fun i hi => ?_⟩
        rw [e2, jI_sI]
        show _ = if i = k then _ else B i
        by_cases q : i = k
        · rw [if_pos ⟨rfl, q⟩, if_pos q]
        · rw [if_neg (fun z => q z.2), if_neg q]; exact y7 i hi
      refine ih (k + 1) h2 _ (by omega) (by omega) (F1.trans (FA.sI e2)) H2 (fun i hi => ?_)
      show (if i = k then _ else B i) = _
      by_cases q : i = k
      · rw [if_pos q, if_pos (by omega), q]
      · rw [if_neg q, eB i hi]
        by_cases q2 : i < k
        · rw [if_pos q2, if_pos (by omega)]
        · rw [if_neg q2, if_neg (by omega)]
  refine eX6_repeat ⟨fun c => absurd c (nI_pos (by omega)), fun _ => ⟨fun _ => ⟨H.1, ?_⟩, fun c => absurd (nI_pos' (by omega)) c⟩⟩
  have em : nI s * nI m = nI (m * s) := by rw [pk_mul, Nat.mul_comm]
  have ec : (if nI n < nI (p + m * s) then nI n else nI (p + m * s)) = nI (p + m * s) := if_neg (fun c => by rw [nI_ltI (by omega) (by omega)] at c; omega)
  rw [H.2.2.2.2.2.1, em, nI_add, nI_add, ec]
  refine loop (p + m * s - (p + s)) (p + s) h A (by omega) (Nat.le_refl _) FA.rf H (fun i hi => ?_)
  by_cases q : i < p + s
  · rw [if_pos q]
    unfold rep
    by_cases q2 : p ≤ i ∧ i < p + m * s
    · rw [if_pos q2, Nat.mod_eq_of_lt (by omega)]
      congr 1; omega
    · rw [if_neg q2]
  · rw [if_neg q]
end Sto1
