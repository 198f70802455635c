/-! readers: at, octet, count -/
def inb (S : sg) (u : Int32) : Prop := laid S = 1 ∧ 0 ≤ u.toInt ∧ u.toInt < tot S
def sat (S : sg) (u : Int32) : Option Int32 := if laid S = 1 ∧ 0 ≤ u.toInt ∧ u.toInt < tot S then some (bv S u.toInt.toNat) else none
/-- bytes are bytes -/
def WY (S : sg) : Prop := ∀ k, b8 (bv S k) = bv S k
def sput (S : sg) (k : Nat) (v : Int32) : sg := (S.1, fun a i => if a = 30 ∧ i = k then v else S.2 a i)
def soct (S : sg) (u v : Int32) : Int32 × sg := if u.toInt < 0 ∨ 20000 ≤ u.toInt then (-4, S) else if laid S = 0 then (-5, S) else if (tot S : Int) ≤ u.toInt then (-4, S) else (1, sput S u.toInt.toNat (b8 v))
/-- how many of 1 .. n with f -/
def cnt (f : Nat → Bool) : Nat → Nat
  | 0 => 0
  | n + 1 => cnt f n + if f (n + 1) then 1 else 0
def sumN (f : Nat → Nat) : Nat → Nat
  | 0 => 0
  | n + 1 => sumN f n + f (n + 1)
def scount (S : sg) (u : Int32) : Int32 := if u = 0 then nI (sN S) else if u = 1 then nI (cnt (fun i => decide (rc S i = i)) (sN S)) else if u = 2 then nI (cnt (fun i => decide (¬ tb S i = 0)) (sN S)) else if u = 3 then (if laid S = 0 then -1 else nI (sumN (sk S) (sN S))) else if u = 4 then (if laid S = 0 then -1 else nI (tot S)) else -1
theorem b8_and32 (v : Int32) : b8 (v &&& 255) = b8 v := by
  unfold b8
  congr 1
  have e0 : v &&& 255 = nI (v.toBitVec.toNat % 2 ^ 8) := pk_and v 8 (by decide)
  rw [e0, ← Int8.toInt_inj, Int32.toInt_toInt8, Int32.toInt_toInt8, nI_toInt (by omega)]
  have e : v.toInt = (v.toBitVec.toNat : Int).bmod (2 ^ 32) := BitVec.toInt_eq_toNat_bmod _
  rw [e, Int.bmod_bmod_of_dvd (by decide)]
  have : ((v.toBitVec.toNat % 2 ^ 8 : Nat) : Int) = (v.toBitVec.toNat : Int) % 256 := by omega
  rw [this]
  exact Int.emod_bmod _ 256
section Rea2
variable {g : jg} {h : jh} {S : sg} {x b1 b2 tr rw pn so al : Nat} {ad : Nat → Nat} {Q : jq}
theorem RCx.bs (C : RCx h S x b1 b2 tr pn so rw al ad) (hl : laid S = 1) : BS h so al (tot S) (bv S) := by
  obtain ⟨x1, x2, x3, x4, x5, x6, x7, x8, x9, x10, x11, x12, x13, x14, R, H, B, J, L⟩ := id C
  obtain ⟨l1, l2, l3, l4, -⟩ := L hl
  exact ⟨x10, x11, x12, l3, x14, l1, l4⟩
theorem RCx.gr (C : RCx h S x b1 b2 tr pn so rw al ad) {z : Nat} (hz : jz h ≤ z) : RC (jgr h z) S x b1 b2 (jn h al) ∧ FB b1 b2 h (jgr h z) := by
  have H := C.2.2.2.2.2.2.2.2.2.2.2.2.2.2.2.1
  have := C.grow (h' := jgr h z) hz (H.gr hz) (fun c _ => ⟨rfl, rfl, fun _ => ⟨rfl, rfl, rfl⟩, fun _ => ⟨rfl, rfl, rfl⟩⟩)
  exact ⟨⟨tr, pn, so, rw, al, ad, this.1, rfl⟩, this.2⟩
theorem c_at (C : RCx h S x b1 b2 tr pn so rw al ad) (M : WM S) (Y : WY S) {u : Int32} (hQ : ∀ v, sat S u = some v → Q (.inl (some (.inl v))) h) (hX : sat S u = none → ∀ h', RC h' S x b1 b2 (jn h al) → FB b1 b2 h h' → Q (.inr 0) h') : jM g mX9_at [.inr (.inr (some x)), .inl u] h 1 6 Q := by
  obtain ⟨x1, x2, x3, x4, x5, x6, x7, x8, x9, x10, x11, x12, x13, x14, R, H, B, J, L⟩ := id C
  have l0 : ji h 451 x = 0 ↔ laid S = 0 := by
    rw [x5, show (0 : Int32) = nI 0 from rfl, nI_eq (by have := M.1; omega) (by decide)]
  unfold sat at hQ hX
  refine eX9_at ⟨x1, ?_⟩
  rw [l0]
  refine ⟨fun c => ⟨Nat.le_refl _, Nat.le_refl _, fun z hz => ?_⟩, fun c => ?_⟩
  · rw [if_neg (by omega)] at hX
    exact hX rfl _ (C.gr hz).1 (C.gr hz).2
  · have l1 := M.l1 c
    have BB := C.bs l1
    have t2 := (M.2 l1).1
    rw [x4, jd_s]
    refine ⟨jsn, x10, c_has BB ?_⟩
    rw [jki_i, jb_0, x4, jd_s]
    refine ⟨fun q => ⟨x1, jsn, x10, ?_⟩, fun q => ⟨Nat.le_refl _, Nat.le_refl _, fun z hz => ?_⟩⟩
    · have q' := of_decide_eq_true (by simpa using q : decide (0 ≤ u.toInt ∧ u.toInt < (tot S : Int)) = true)
      have eu : u = nI u.toInt.toNat := by rw [← Int32.toInt_inj, nI_toInt (by omega)]; omega
      rw [if_pos ⟨l1, q'⟩] at hQ
      have : ∀ w, w = u.toInt.toNat → jM g mX6_get [.inr (.inr (some so)), .inl (nI w)] h 0 0 (jki (fun (r13 : Int32) (h14 : jh) => Q (.inl (some (.inl ((r13 : Int32).toInt8.toInt32)))) h14) (fun e h9 => Q (.inr e) h9)) := by
        intro w hw
        refine c_get BB (by omega) ?_
        rw [jki_i]
        have e1 : (bv S w &&& 255).toInt8.toInt32 = bv S w := by
          have := b8_and32 (bv S w)
          rw [Y w] at this
          exact this
        rw [e1, hw]
        exact hQ _ rfl
      have t := this _ rfl
      rw [← eu] at t
      exact t
    · have q' := of_decide_eq_false q
      rw [if_neg (fun w => q' w.2)] at hX
      exact hX rfl _ (C.gr hz).1 (C.gr hz).2
theorem c_octet (C : RCx h S x b1 b2 tr pn so rw al ad) (M : WM S) {u v : Int32} (hQ : ∀ h', RC h' (soct S u v).2 x b1 b2 (jn h al) → FB b1 b2 h h' → Q (.inl (some (.inl (soct S u v).1))) h') : jM g mX9_octet [.inr (.inr (some x)), .inl u, .inl v] h 0 0 Q := by
  obtain ⟨x1, x2, x3, x4, x5, x6, x7, x8, x9, x10, x11, x12, x13, x14, R, H, B, J, L⟩ := id C
  have l0 : ji h 451 x = 0 ↔ laid S = 0 := by
    rw [x5, show (0 : Int32) = nI 0 from rfl, nI_eq (by have := M.1; omega) (by decide)]
  have same : ∀ r : Int32, soct S u v = (r, S) → Q (.inl (some (.inl r))) h := fun r e => by
    have := hQ h (by rw [e]; exact ⟨tr, pn, so, rw, al, ad, C, rfl⟩) FB.rf
    rw [e] at this
    exact this
  have a0 : u < 0 ↔ u.toInt < 0 := by rw [Int32.lt_iff_toInt_lt]; rfl
  have a2 : u < 20000 ↔ u.toInt < 20000 := by rw [Int32.lt_iff_toInt_lt]; rfl
  refine eX9_octet ?_
  unfold VX9_octet_0
  rw [a0, a2, l0]
  refine ⟨fun q => same _ (if_pos (Or.inl q)), fun q => ⟨fun q2 => ⟨x1, fun q3 => ?_, fun q3 => same _ ?_⟩, fun q2 => same _ (if_pos (Or.inr (by omega)))⟩⟩
  · have l1 := M.l1 q3
    have BB := C.bs l1
    have t2 := (M.2 l1).1
    rw [x4, jd_s]
    refine ⟨jsn, x10, c_has BB ?_⟩
    rw [jki_i, jb_0, x4, jd_s]
    refine ⟨fun q4 => ⟨x1, jsn, x10, ?_⟩, fun q4 => same _ ?_⟩
    · have q' := of_decide_eq_true (by simpa using q4 : decide (0 ≤ u.toInt ∧ u.toInt < (tot S : Int)) = true)
      have eu : u = nI u.toInt.toNat := by rw [← Int32.toInt_inj, nI_toInt (by omega)]; omega
      have es : soct S u v = (1, sput S u.toInt.toNat (b8 v)) := by
        unfold soct
        rw [if_neg (by omega), if_neg q3, if_neg (by omega)]
      have : ∀ w, w = u.toInt.toNat → jM g mX6_put [.inr (.inr (some so)), .inl (nI w), .inl v] h 0 0 (jkv (fun (h14 : jh) => Q (.inl (some (.inl (1)))) h14) (fun e h9 => Q (.inr e) h9)) := by
        intro w hw
        refine c_put BB (by omega) (fun h2 F2 B2 => ?_)
        rw [jkv_i]
        have hal : ∀ a, b1 ≤ a → a ≤ b2 → a ≠ al := fun a a1 a2 => by omega
        have fb : FB b1 b2 h h2 := by
          obtain ⟨p1, p2, p3, p4, p5, p6, p7, p8, p9⟩ := F2
          exact Sm.fb (fun a a1 a2 => ⟨by rw [p2], by rw [p3], fun k => ⟨by rw [p4], by rw [p5], by rw [p6]⟩, fun i => ⟨by rw [p9 a (hal a a1 a2)], by rw [p7], by rw [p8]⟩⟩)
        have R2 := R.fa x12 F2
        have := hQ h2 ?_ fb
        · rw [es] at this; exact this
        · rw [es, ← hw]
          obtain ⟨p1, p2, p3, p4, p5, p6, p7, p8, p9⟩ := F2
          refine ⟨tr, pn, so, rw, al, ad, ⟨by rw [p2]; exact x1, by rw [p6]; exact x2, by rw [p6]; exact x3, by rw [p6]; exact x4, by rw [p4]; exact x5, by rw [p4]; exact x6, by rw [p4]; exact x7, by rw [p2]; exact x8, by rw [p6]; exact x9, by rw [p2]; exact x10, by rw [p6]; exact x11, by rw [p2]; exact x12, x13, by rw [p3]; exact x14, ?_, ?_, ⟨?_, ?_, ?_⟩, ⟨?_, ?_, ?_⟩, ?_⟩, by rw [p3]⟩
          · obtain ⟨r1, r2, r3, r4, r5, r6, r7⟩ := R2
            refine ⟨r1, r2, r3, r4, r5, r6, fun i a b => ?_⟩
            obtain ⟨hI, hT, hR⟩ := r7 i a b
            refine ⟨hI, hT, hR.1, fun q => ?_⟩
            obtain ⟨r, y1, y2, y3, y4, y5, y6, y7, y8, y9, y10⟩ := hR.2 q
            have h8 : rg S i ≤ 8 := r6.2.2.2.2.2.2.2.2.2.1 i
            refine ⟨r, y1, y2, y3, y4, y5, y6, y7, y8, y9, fun k hk => ?_⟩
            have hk' : k < rg S i := hk
            have e1 : rf (sput S w (b8 v)) k i = rf S k i := by
              show (if 1 + k = 30 ∧ _ then _ else _) = _
              rw [if_neg (by omega)]; rfl
            have e2 : rt (sput S w (b8 v)) k i = rt S k i := by
              show (if 11 + k = 30 ∧ _ then _ else _) = _
              rw [if_neg (by omega)]; rfl
            rw [e1, e2]
            exact y10 k hk'
          · intro a ha
            rw [p2] at ha
            rw [p1]; exact H a ha
          · rw [p1]; exact B.1
          · rw [p2]; exact B.2.1
          · rw [p6]; exact B.2.2
          · rw [p6]; exact J.1
          · rw [p6]; exact J.2.1
          · rw [p4]; exact J.2.2
          · intro ql
            obtain ⟨k1, k2, k3, k4, k5⟩ := L ql
            refine ⟨by rw [p4]; exact k1, k2, by rw [p3]; exact k3, fun i hi => ?_, ?_⟩
            · have := B2.2.2.2.2.2.2 i hi
              rw [this]
              show (if i = w then _ else _) = if 30 = 30 ∧ i = w then _ else _
              by_cases qq : i = w
              · rw [if_pos qq, if_pos ⟨rfl, qq⟩]
              · rw [if_neg qq, if_neg (fun z => qq z.2)]; rfl
            · rw [p5, p4, p6]; exact k5
      have t := this _ rfl
      rw [← eu] at t
      exact t
    · have q' := of_decide_eq_false q4
      unfold soct
      rw [if_neg (by omega), if_neg q3, if_pos (by omega)]
  · unfold soct
    rw [if_neg (by omega), if_pos q3]
theorem c_count (C : RCx h S x b1 b2 tr pn so rw al ad) (M : WM S) (WRh : WR S) {u : Int32} (hQ : Q (.inl (some (.inl (scount S u)))) h) : jM g mX9_count [.inr (.inr (some x)), .inl u] h 0 0 Q := by
  obtain ⟨x1, x2, x3, x4, x5, x6, x7, x8, x9, x10, x11, x12, x13, x14, R, H, B, J, L⟩ := id C
  have hN := R.N
  have l0 : ji h 451 x = 0 ↔ laid S = 0 := by
    rw [x5, show (0 : Int32) = nI 0 from rfl, nI_eq (by have := M.1; omega) (by decide)]
  have rec' : ∀ {K : jq}, K (.inl (some (.inl (nI (cnt (fun i => decide (rc S i = i)) (sN S)))))) h → jM g mX8_records [.inr (.inr (some tr))] h 0 0 K := by
    intro K hK
    have loop : ∀ n j, j + n = sN S → jG g mX8_records 4 [(0, .inr (.inr (some tr))), (1, .inl (nI (cnt (fun i => decide (rc S i = i)) j))), (2, .inl (nI (j + 1)))] [] h 0 0 K := by
      intro n
      induction n with
      | zero =>
        intro j e
        refine vX8_records_4 ⟨R.tg, ?_⟩
        rw [R.told]
        have ej : j = sN S := by omega
        refine ⟨fun _ => by rw [ej]; exact hK, fun c => absurd (nI_lt (by omega) (by omega)) c⟩
      | succ n ih =>
        intro j e
        have hj : j + 1 ≤ sN S := by omega
        obtain ⟨w1, w2, w3, w4⟩ := R.row (i := j + 1) (by omega) hj
        have wr := WRh (j + 1) (by omega) hj
        have er : jr h 8 (ad (j + 1)) = some (ad (j + 1)) ↔ rc S (j + 1) = j + 1 := by
          rw [(R.i (by omega) hj).2.2.2.2.2.2.2.2.2.2.2.1, ← rO_some (ad := ad) (show ¬ j + 1 = 0 by omega), R.rO_inj (by omega) hj]
        refine vX8_records_4 ⟨R.tg, ?_⟩
        rw [R.told, w4, jd_s, er, nI_1, nI_1]
        have next := ih (j + 1) (by omega)
        refine ⟨fun c => absurd c (nI_nlt (by omega) (by omega)), fun _ => ⟨w1, w2, w3, jsn, R.ty (by omega) hj, fun c => ?_, fun c => ?_⟩⟩
        · have e2 : cnt (fun i => decide (rc S i = i)) (j + 1) = cnt (fun i => decide (rc S i = i)) j := by
            show _ + (if decide (rc S (j + 1) = j + 1) = true then 1 else 0) = _
            rw [decide_eq_false c]; rfl
          rw [e2] at next; exact next
        · have e2 : cnt (fun i => decide (rc S i = i)) (j + 1) = cnt (fun i => decide (rc S i = i)) j + 1 := by
            show _ + (if decide (rc S (j + 1) = j + 1) = true then 1 else 0) = _
            rw [decide_eq_true c]; rfl
          rw [e2] at next; exact next
    exact eX8_records (loop (sN S) 0 (by omega))
  have tab' : ∀ {K : jq}, K (.inl (some (.inl (nI (cnt (fun i => decide (¬ tb S i = 0)) (sN S)))))) h → jM g mX8_tables [.inr (.inr (some tr))] h 0 0 K := by
    intro K hK
    have loop : ∀ n j, j + n = sN S → jG g mX8_tables 4 [(0, .inr (.inr (some tr))), (1, .inl (nI (cnt (fun i => decide (¬ tb S i = 0)) j))), (2, .inl (nI (j + 1)))] [] h 0 0 K := by
      intro n
      induction n with
      | zero =>
        intro j e
        refine vX8_tables_4 ⟨R.tg, ?_⟩
        rw [R.told]
        have ej : j = sN S := by omega
        refine ⟨fun _ => by rw [ej]; exact hK, fun c => absurd (nI_lt (by omega) (by omega)) c⟩
      | succ n ih =>
        intro j e
        have hj : j + 1 ≤ sN S := by omega
        obtain ⟨w1, w2, w3, w4⟩ := R.row (i := j + 1) (by omega) hj
        refine vX8_tables_4 ⟨R.tg, ?_⟩
        rw [R.told, w4, jd_s, RT.nn R (by omega) hj, nI_1, nI_1]
        have next := ih (j + 1) (by omega)
        refine ⟨fun c => absurd c (nI_nlt (by omega) (by omega)), fun _ => ⟨w1, w2, w3, jsn, R.ty (by omega) hj, fun c => ?_, fun c => ?_⟩⟩
        · have e2 : cnt (fun i => decide (¬ tb S i = 0)) (j + 1) = cnt (fun i => decide (¬ tb S i = 0)) j := by
            show _ + (if decide (¬ tb S (j + 1) = 0) = true then 1 else 0) = _
            rw [decide_eq_false (fun q => q c)]; rfl
          rw [e2] at next; exact next
        · have e2 : cnt (fun i => decide (¬ tb S i = 0)) (j + 1) = cnt (fun i => decide (¬ tb S i = 0)) j + 1 := by
            show _ + (if decide (¬ tb S (j + 1) = 0) = true then 1 else 0) = _
            rw [decide_eq_true c]; rfl
          rw [e2] at next; exact next
    exact eX8_tables (loop (sN S) 0 (by omega))
  have sla' : ∀ {K : jq}, laid S = 1 → K (.inl (some (.inl (nI (sumN (sk S) (sN S)))))) h → jM g mX8_slackBytes [.inr (.inr (some tr))] h 0 0 K := by
    intro K hl hK
    have LL := (L hl).2.2.2.2
    have loop : ∀ n j, j + n = sN S → jG g mX8_slackBytes 4 [(0, .inr (.inr (some tr))), (1, .inl (nI (sumN (sk S) j))), (2, .inl (nI (j + 1)))] [] h 0 0 K := by
      intro n
      induction n with
      | zero =>
        intro j e
        refine vX8_slackBytes_4 ⟨R.tg, ?_⟩
        rw [R.told]
        have ej : j = sN S := by omega
        refine ⟨fun _ => by rw [ej]; exact hK, fun c => absurd (nI_lt (by omega) (by omega)) c⟩
      | succ n ih =>
        intro j e
        have hj : j + 1 ≤ sN S := by omega
        obtain ⟨w1, w2, w3, w4⟩ := R.row (i := j + 1) (by omega) hj
        refine vX8_slackBytes_4 ⟨R.tg, ?_⟩
        rw [R.told, w4, jd_s, R.sp (by omega) hj, jd_s, (LL (j + 1) (by omega) hj).2.1, nI_add, nI_1]
        exact ⟨fun c => absurd c (nI_nlt (by omega) (by omega)), fun _ => ⟨w1, w2, w3, jsn, R.ty (by omega) hj, jsn, R.st (by omega) hj, ih (j + 1) (by omega)⟩⟩
    exact eX8_slackBytes (loop (sN S) 0 (by omega))
  unfold scount at hQ
  refine eX9_count ?_
  unfold VX9_count_0
  rw [x2, jd_s, x4, jd_s, l0]
  refine ⟨fun c => ⟨x1, jsn, R.tg, ?_⟩, fun c => ⟨x1, jsn, R.tg, rec' ?_⟩, fun c => ⟨x1, jsn, R.tg, tab' ?_⟩, fun c => ⟨x1, fun c2 => ?_, fun c2 => ⟨jsn, R.tg, sla' (M.l1 c2) ?_⟩⟩, fun c => ⟨x1, fun c2 => ?_, fun c2 => ⟨jsn, x10, ?_⟩⟩, fun c => ?_⟩
  · rw [R.told]; rw [if_pos c] at hQ; exact hQ
  · rw [jki_i]; rw [c] at hQ; exact hQ
  · rw [jki_i]; rw [c] at hQ; exact hQ
  · rw [c] at hQ
    have : Q (.inl (some (.inl (if laid S = 0 then -1 else nI (sumN (sk S) (sN S)))))) h := hQ
    rw [if_pos c2] at this; exact this
  · rw [jki_i]
    rw [c] at hQ
    have : Q (.inl (some (.inl (if laid S = 0 then -1 else nI (sumN (sk S) (sN S)))))) h := hQ
    rw [if_neg c2] at this; exact this
  · rw [c] at hQ
    have : Q (.inl (some (.inl (if laid S = 0 then -1 else nI (tot S))))) h := hQ
    rw [if_pos c2] at this; exact this
  · rw [c] at hQ
    have : Q (.inl (some (.inl (if laid S = 0 then -1 else nI (tot S))))) h := hQ
    rw [if_neg c2] at this
    rw [(L (M.l1 c2)).1]; exact this
  · have ne : ∀ k : Int32, (0 ≤ k.toInt ∧ k.toInt ≤ 4) → ¬ u = k := fun k hk e => by rw [e] at c; omega
    rw [if_neg (ne 0 (by decide)), if_neg (ne 1 (by decide)), if_neg (ne 2 (by decide)), if_neg (ne 3 (by decide)), if_neg (ne 4 (by decide))] at hQ
    exact hQ
end Rea2
