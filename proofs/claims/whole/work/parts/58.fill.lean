/-! all entries; the store is cleared -/
section Fil2
variable {g : jg} {h : jh} {S : sg} {x tr rw pn so al n : Nat} {ad : Nat → Nat} {A : Nat → Int32} {Q : jq}
theorem c_fillOther (R : RTree h S tr rw ad) (HFh : HF h S pn ad) (W : WB S (gU S)) (ok : fwr S (gU S) true = 0) (hx : jt h x = 8) (ht : jr h 448 x = some tr) (hs : jr h 450 x = some so) (H : BS h so al n A) (hb : ∀ k, b8 (A k) = A k) (hn : mfin S (gU S) true 4 0 = n) (hQ : ∀ h', FA al h h' → BS h' so al n (rps S (mfin S (gU S) true) (sN S) A) → (∀ k, b8 (rps S (mfin S (gU S) true) (sN S) A k) = rps S (mfin S (gU S) true) (sN S) A k) → Q (.inl none) h') : jM g mX9_fillOtherEntries [.inr (.inr (some x))] h 0 0 Q := by
  have hN := R.N
  have ha := H.2.2.1
  have loop : ∀ j (h1 : jh) (B : Nat → Int32), j ≤ sN S → FA al h h1 → BS h1 so al n B → (∀ k, b8 (B k) = B k) → rps S (mfin S (gU S) true) j B = rps S (mfin S (gU S) true) (sN S) A → jG g mX9_fillOtherEntries 8 [(0, .inr (.inr (some x))), (1, .inl (nI j))] [] h1 0 0 Q := by
    intro j
    induction j with
    | zero =>
      intro h1 B _ F1 H1 b1 e1
      refine vX9_fillOtherEntries_8 ⟨fun _ => hQ h1 F1 (e1 ▸ H1) (e1 ▸ b1), fun c => absurd (by decide) c⟩
    | succ j ih =>
      intro h1 B hj F1 H1 b1 e1
      have R1 := R.fa ha F1
      have HF1 := HFh.fa F1
      obtain ⟨w1, w2, w3, w4⟩ := R1.row (i := j + 1) (by omega) hj
      have hx1 : jt h1 x = 8 := by rw [F1.2.1]; exact hx
      have ht1 : jr h1 448 x = some tr := by rw [F1.2.2.2.2.2.1]; exact ht
      have hs1 : jr h1 450 x = some so := by rw [F1.2.2.2.2.2.1]; exact hs
      have es : rps S (mfin S (gU S) true) (j + 1) B = rps S (mfin S (gU S) true) j (rpt1 S (mfin S (gU S) true) (j + 1) B) := rfl
      rw [es] at e1
      have go : ¬ (¬ tb S (j + 1) = 0 ∧ lent S (j + 1) = false) → jG g mX9_fillOtherEntries 8 [(0, .inr (.inr (some x))), (1, .inl (nI j))] [] h1 0 0 Q := fun q => by
        have : rpt1 S (mfin S (gU S) true) (j + 1) B = B := if_neg q
        rw [this] at e1
        exact ih h1 B (by omega) F1 H1 b1 e1
      refine vX9_fillOtherEntries_8 ⟨fun c => absurd c ?_, fun _ => ⟨hx1, ?_⟩⟩
      · rw [show (1 : Int32) = nI 1 from rfl, nI_ltI (by omega) (by decide)]; omega
      · rw [ht1, jd_s, w4, jd_s, pk_m1]
        refine ⟨jsn, R1.tg, w1, w2, w3, jsn, R1.ty (by omega) hj, fun c => go (fun q => q.1 ((RT.nn R1 (by omega) hj).mp c)), fun c => ?_⟩
        obtain ⟨t, htt⟩ : ∃ t, jr h1 10 (ad (j + 1)) = some t := by
          cases hq : jr h1 10 (ad (j + 1)) with
          | none => exact absurd hq c
          | some t => exact ⟨t, rfl⟩
        obtain ⟨y0, y1, y2, y3, y4, y5⟩ := RT.le R1 (by omega) hj htt
        have tm := W.tm y0
        have hl : lies S (j + 1) = true := by
          unfold lies
          rw [decide_eq_true (by omega : lv S (j + 1) < 50)]; rfl
        obtain ⟨f1, f2, f3, f4, f5, f6, f7⟩ := fin_b (b := true) W hN (by omega) hj hl
        obtain ⟨g1, g2, g3, g4⟩ := HF1.1.2.2.1 (j + 1) (by omega) hj f1
        have g5 := HF1.1.2.2.2.1 (j + 1) t (by omega) hj f2 htt
        rw [R1.sp (by omega) hj, jd_s, g4, jb_0, g1, toInt32_nL, htt, jd_s, g5, toInt32_nL, y3, hs1, jd_s]
        refine ⟨jsn, R1.st (by omega) hj, fun c2 => go (fun q => c2 q.2), fun c2 => ⟨y1, jsn, H1.1, ?_⟩⟩
        have hall := g_all W ok (j + 1) (by omega) hj hl
        have hxt : xtn S (mfin S (gU S) true) (j + 1) = mo S (j + 1) * mfin S (gU S) true 2 (j + 1) := by unfold xtn; rw [if_neg y0]
        refine c_repeat H1 (fun i _ => b1 i) tm.1 (by omega) (fun h2 F2 H2 => ?_)
        rw [jkv_i]
        have er : rpt1 S (mfin S (gU S) true) (j + 1) B = rep (mfin S (gU S) true 0 (j + 1)) (mfin S (gU S) true 2 (j + 1)) (mo S (j + 1)) B := if_pos ⟨y0, c2⟩
        rw [er] at e1
        refine ih h2 _ (by omega) (F1.trans F2) H2 (fun k => ?_) e1
        unfold rep
        split
        · exact b1 _
        · exact b1 _
  refine eX9_fillOtherEntries ⟨hx, ?_⟩
  rw [ht, jd_s, R.told]
  exact ⟨jsn, R.tg, loop (sN S) h A (Nat.le_refl _) FA.rf H hb rfl⟩
theorem fst1_b8 {F : lm} : ∀ j k, b8 (fst1 S F (ibt S) j k) = fst1 S F (ibt S) j k := by
  intro j
  induction j with
  | zero => intro k; show b8 0 = 0; decide
  | succ j ih =>
    intro k
    unfold fst1
    split
    · exact ibt_b8 _ _
    · exact ih k
/-- how long the row is behind clear, when n bytes are wanted of one with c -/
def newc (n c : Nat) : Nat := if n ≤ c then c else min 20000 (max n (2 * c))
theorem c_clear (hs : jt h so = 5) (h6 : jr h 256 so = some al) (ha : jt h al = 21) (hc : jn h al ≤ 20000) (HWh : HW h) (hn : n ≤ 20000) (hQ : ∀ h' al', BS h' so al' n (fun _ => 0) → jn h' al' = newc n (jn h al) → ((al' = al ∧ jz h' = jz h) ∨ (al' = jz h ∧ jz h' = jz h + 1)) → (∀ c, c ≠ so → c ≠ al' → Sm h h' c) → HW h' → Q (.inl none) h') : jM g mX6_clear [.inr (.inr (some so)), .inl (nI n)] h 1 (if n ≤ jn h al then 0 else newc n (jn h al)) Q := by
  have e1 : (if (20000 : Int32) < nI n then (20000 : Int32) else nI n) = nI n := if_neg (fun c => by
    rw [show (20000 : Int32) = nI 20000 from rfl, nI_ltI (by decide) (by omega)] at c; omega)
  have e2 : (if 0 < nI n then nI n else 0) = nI n := by
    by_cases q : n = 0
    · rw [q]; rfl
    · rw [if_pos]
      rw [show (0 : Int32) = nI 0 from rfl, nI_ltI (by decide) (by omega)]; omega
  have hso : so < jz h := HWh so (by rw [hs]; decide)
  have hal : al < jz h := HWh al (by rw [ha]; decide)
  have hsa : so ≠ al := fun e => by rw [← e, hs] at ha; cases ha
  refine eX6_clear ⟨hs, ?_⟩
  rw [e1, e2]
  intro h1 q1
  have r256 : jr h1 256 so = some al := by rw [q1, jr_si]; exact h6
  have n1 : jn h1 al = jn h al := by rw [q1, jn_si]
  have i257 : ji h1 257 so = nI n := by rw [q1, ji_si, if_pos ⟨rfl, rfl⟩]
  rw [r256, jd_s, i257, n1, nI_leI (by omega) (by omega)]
  refine ⟨jsn, by rw [q1]; exact ha, fun c => ?_, fun c => ?_⟩
  · -- the row is long enough
    have loop : ∀ d k (h2 : jh), k + d = n → FA al h1 h2 → (∀ i, i < k → jI h2 al i = 0) → jG g mX6_clear 56 [(0, .inr (.inr (some so))), (2, .inl (nI k))] [] h2 1 (if n ≤ jn h al then 0 else newc n (jn h al)) Q := by
      intro d
      induction d with
      | zero =>
        intro k h2 e F2 z2
        refine vX6_clear_56 ⟨by rw [F2.2.1, q1]; exact hs, ?_⟩
        rw [F2.2.2.2.1, i257, nI_leI (by omega) (by omega)]
        refine ⟨fun _ => ?_, fun z => absurd (by omega) z⟩
        obtain ⟨p1, p2, p3, p4, p5, p6, p7, p8, p9⟩ := F2
        refine hQ h2 al ⟨by rw [p2, q1]; exact hs, by rw [p6]; exact r256, by rw [p2, q1]; exact ha, by rw [p3, n1]; exact c, by rw [p3, n1]; exact hc, by rw [p4]; exact i257, fun i hi => z2 i (by omega)⟩ (by rw [p3, n1]; unfold newc; rw [if_pos c]) (Or.inl ⟨rfl, by rw [p1, q1]; rfl⟩) (fun b b1 b2 => ?_) ?_
        · have s1 : Sm h h1 b := Sm.si q1 b1
          refine s1.trans ⟨by rw [p2], by rw [p3], fun k => ⟨by rw [p4], by rw [p5], by rw [p6]⟩, fun i => ⟨by rw [p9 b b2], by rw [p7], by rw [p8]⟩⟩
        · intro b hb
          rw [p2] at hb
          rw [p1]
          rw [q1] at hb ⊢
          exact HWh b hb
      | succ d ih =>
        intro k h2 e F2 z2
        refine vX6_clear_56 ⟨by rw [F2.2.1, q1]; exact hs, ?_⟩
        rw [F2.2.2.2.1, i257, nI_leI (by omega) (by omega), F2.2.2.2.2.2.1, r256, jd_s, F2.2.1, F2.2.2.1, n1, nI_clamp (by omega), nI_1]
        refine ⟨fun z => absurd z (by omega), fun _ => ⟨jsn, by rw [q1]; exact ha, vp_in_nI (by omega) (by omega), ?_⟩⟩
        intro h3 e3
        refine ih (k + 1) h3 (by omega) (F2.trans (FA.sI e3)) (fun i hi => ?_)
        rw [e3, jI_sI]
        by_cases z : i = k
        · rw [if_pos ⟨rfl, z⟩]; rfl
        · rw [if_neg (fun y => z y.2)]; exact z2 i (by omega)
    exact loop n 0 h1 (by omega) FA.rf (fun i hi => by omega)
  · -- a new row
    have e3 : (2 : Int32) * nI (jn h al) = nI (2 * jn h al) := pk_mul 2 _
    have e4 : (if nI n < nI (2 * jn h al) then nI (2 * jn h al) else nI n) = nI (max n (2 * jn h al)) := by
      have z : nI n < nI (2 * jn h al) ↔ n < 2 * jn h al := nI_ltI (by omega) (by omega)
      by_cases q : n < 2 * jn h al
      · rw [if_pos (z.mpr q)]; congr 1; omega
      · rw [if_neg (fun y => q (z.mp y))]; congr 1; omega
    have e5 : (if nI (max n (2 * jn h al)) < 20000 then nI (max n (2 * jn h al)) else 20000) = nI (newc n (jn h al)) := by
      have z : nI (max n (2 * jn h al)) < 20000 ↔ max n (2 * jn h al) < 20000 := nI_ltI (b := 20000) (by omega) (by decide)
      unfold newc
      rw [if_neg c]
      by_cases q : max n (2 * jn h al) < 20000
      · rw [if_pos (z.mpr q)]; congr 1; omega
      · rw [if_neg (fun y => q (z.mp y)), show (20000 : Int32) = nI 20000 from rfl]; congr 1; omega
    have hnc : n ≤ newc n (jn h al) ∧ newc n (jn h al) ≤ 20000 := by
      unfold newc
      rw [if_neg c]; omega
    rw [e3, e4, e5, nI_clamp (by omega), if_neg c]
    refine ⟨nI_pos (by omega), by omega, Nat.le_refl _, Nat.le_refl _, ?_⟩
    intro h2 e2
    have z1 : jz h1 = jz h := by rw [q1]; rfl
    refine ⟨by rw [e2, jt_mk, if_neg (by omega), q1]; exact hs, ?_⟩
    intro h3 q3
    rw [z1] at q3
    have t3 : jt h3 = jt h2 := by rw [q3]; rfl
    have sm : ∀ b, b ≠ so → b ≠ jz h → Sm h h3 b := fun b b1 b2 => ((Sm.si q1 b1).trans (Sm.mk e2 (by rw [z1]; exact b2))).trans (Sm.sr q3 b1)
    refine hQ h3 (jz h) ⟨?_, ?_, ?_, ?_, ?_, ?_, fun i _ => ?_⟩ ?_ (Or.inr ⟨rfl, ?_⟩) sm ?_
    · rw [t3, e2, jt_mk, if_neg (by omega), q1]; exact hs
    · rw [q3, jr_sr, if_pos ⟨rfl, rfl⟩]
    · rw [t3, e2, jt_mk, if_pos z1.symm]
    · rw [q3, jn_sr, e2, jn_mk, if_pos z1.symm]; exact hnc.1
    · rw [q3, jn_sr, e2, jn_mk, if_pos z1.symm]; exact hnc.2
    · rw [q3, ji_sr, e2, ji_mk, if_neg (by omega)]; exact i257
    · rw [q3, jI_sr, e2, jI_mk, if_pos z1.symm]
    · rw [q3, jn_sr, e2, jn_mk, if_pos z1.symm]
    · rw [q3, jz_sr, e2, jz_mk, z1]
    · intro b hb
      rw [q3, jz_sr, e2, jz_mk, z1]
      rw [t3, e2, jt_mk] at hb
      by_cases w : b = jz h1
      · omega
      · rw [if_neg w, q1] at hb
        have := HWh b hb
        omega
end Fil2
