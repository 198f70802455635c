/-! the reference's operations that read -/
section ModN
variable {g : jg} {h h' h1 : jh} {S : sg} {m : Nat} {Q : jq}
theorem m_place (M : RM h S m) (W : WA S) {u : Int32} (hQ : ∀ h', RM h' S m → FMb m h h' → Q (.inl (some (.inl (splace S u)))) h') : jM g mX10_place [.inr (.inr (some m)), .inl u] h 0 0 Q := by
  have hN := W.n
  have le := fnd_le S u hN
  refine eX10_place ⟨M.t, fun h2 e2 => ?_⟩
  have M2 : RM h2 S m := by rw [e2]; exact M.th
  have f2 : FMb m h h2 := FMb.si e2 (by decide)
  have hq := hQ h2 M2 f2
  unfold splace at hq
  refine m_refused (b := false) M2 W ?_
  rw [jki_i, rfu_0]
  refine ⟨fun c => ?_, fun c => ?_⟩
  · obtain ⟨r1, r2, r3, r4⟩ := refus_0 c
    rw [if_neg (fun z => z c)] at hq
    rw [fnd_eq hN r1]
    refine ⟨M2.t, m_placeOf M2 W r3 (by omega) le r2 ?_⟩
    rw [jkl_i, toInt32_nL]; exact hq
  · rw [if_pos c] at hq
    unfold rfu
    rw [if_neg c]; exact hq
theorem m_size (M : RM h S m) (W : WA S) {u : Int32} (hQ : ∀ h', RM h' S m → FMb m h h' → Q (.inl (some (.inl (ssize S u)))) h') : jM g mX10_size [.inr (.inr (some m)), .inl u] h 0 0 Q := by
  have hN := W.n
  have le := fnd_le S u hN
  refine eX10_size ⟨M.t, fun h2 e2 => ?_⟩
  have M2 : RM h2 S m := by rw [e2]; exact M.th
  have f2 : FMb m h h2 := FMb.si e2 (by decide)
  have hq := hQ h2 M2 f2
  unfold ssize at hq
  refine m_refused (b := false) M2 W ?_
  rw [jki_i, rfu_0]
  refine ⟨fun c => ?_, fun c => ?_⟩
  · obtain ⟨r1, r2, r3, r4⟩ := refus_0 c
    rw [if_neg (fun z => z c)] at hq
    rw [fnd_eq hN r1]
    refine ⟨M2.t, m_sizeOf M2 W r3 (by omega) le r2 ?_⟩
    rw [jkl_i, toInt32_nL]; exact hq
  · rw [if_pos c] at hq
    unfold rfu
    rw [if_neg c]; exact hq
theorem m_slack (M : RM h S m) (W : WA S) {u : Int32} (hQ : ∀ h', RM h' S m → FMb m h h' → Q (.inl (some (.inl (sslack S u)))) h') : jM g mX10_slack [.inr (.inr (some m)), .inl u] h 0 0 Q := by
  have hN := W.n
  have le := fnd_le S u hN
  refine eX10_slack ⟨M.t, fun h2 e2 => ?_⟩
  have M2 : RM h2 S m := by rw [e2]; exact M.th
  have f2 : FMb m h h2 := FMb.si e2 (by decide)
  have hq := hQ h2 M2 f2
  unfold sslack at hq
  refine m_refused (b := true) M2 W ?_
  rw [jki_i, rfu_0]
  refine ⟨fun c => ?_, fun c => ?_⟩
  · obtain ⟨r1, r2, r3, r4⟩ := refus_0 c
    rw [if_neg (fun z => z c)] at hq
    obtain ⟨k1, k2, k3⟩ := M2.s.k25
    have rl := (M2.rl W r3 (i := fnd S u) (by omega) le (W.li (by omega) le r2 (r4 rfl))).2.2.2
    obtain ⟨i, ei⟩ : ∃ i, i = fnd S u := ⟨_, rfl⟩
    have eu := fnd_eq hN r1
    rw [← ei] at eu rl hq r1 le
    rw [eu, k1, jd_s, k3, nI_clamp (by omega), rl, toInt32_nL]
    exact ⟨M2.t, jsn, k2, vp_in_nI (by omega) (by decide), hq⟩
  · rw [if_pos c] at hq
    unfold rfu
    rw [if_neg c]; exact hq
theorem m_refer (M : RM h S m) (W : WA S) {u a b : Int32} (hQ : ∀ h', RM h' S m → FMb m h h' → Q (.inl (some (.inl (srefer S u a b)))) h') : jM g mX10_refer [.inr (.inr (some m)), .inl u, .inl a, .inl b] h 0 0 Q := by
  have hN := W.n
  have le := fnd_le S u hN
  have WMh := WM_of W.1 W.2.1 W.2.2.1 W.2.2.2.2.2.1
  have a1 : ∀ v : Int32, v < 1 ↔ v.toInt < 1 := fun v => by rw [Int32.lt_iff_toInt_lt]; rfl
  refine eX10_refer ⟨M.t, fun h2 e2 => ?_⟩
  have M2 : RM h2 S m := by rw [e2]; exact M.th
  have f2 : FMb m h h2 := FMb.si e2 (by decide)
  have hq := hQ h2 M2 f2
  unfold srefer at hq
  refine m_refused (b := false) M2 W ?_
  rw [jki_i, rfu_0, a1, a1]
  refine ⟨fun c => ?_, fun c => ?_⟩
  · obtain ⟨r1, r2, r3, r4⟩ := refus_0 c
    rw [if_neg (fun z => z c)] at hq
    have l1 := WMh.l1 r3
    have mm := (WMh.2 l1).2 _ (by omega) le
    have t2 := (WMh.2 l1).1
    have m1 := mm.1 r2
    have sz : ssz S (fnd S u) ≤ ln S (fnd S u) := by
      unfold ssz; split <;> omega
    refine ⟨fun q => ?_, fun q => ⟨fun q2 => ?_, fun q2 => ?_⟩⟩
    · rw [if_pos (Or.inl q)] at hq; exact hq
    · rw [if_pos (Or.inr (Or.inl q2))] at hq; exact hq
    · have b1 := a.toInt_lt
      have b2 := b.toInt_lt
      have ea : a.toInt64 = nL a.toInt.toNat := by rw [← Int64.toInt_inj, Int32.toInt_toInt64, nL_toInt (by omega)]; omega
      have eb : b.toInt64 = nL b.toInt.toNat := by rw [← Int64.toInt_inj, Int32.toInt_toInt64, nL_toInt (by omega)]; omega
      have ei : a = nI a.toInt.toNat := nI_of0 (by omega)
      rw [fnd_eq hN r1]
      refine ⟨M2.t, m_sizeOf M2 W r3 (by omega) le r2 ?_⟩
      rw [jkl_i, ea, eb, show (1 : Int64) = nL 1 from rfl, nL_sub (by omega), nL_add]
      have le' : nL (a.toInt.toNat - 1 + b.toInt.toNat) ≤ nL (ssz S (fnd S u)) ↔ a.toInt.toNat - 1 + b.toInt.toNat ≤ ssz S (fnd S u) := pk_lLE (by omega) (by omega)
      rw [le']
      refine ⟨fun q3 => ⟨M2.t, m_placeOf M2 W r3 (by omega) le r2 ?_⟩, fun q3 => ?_⟩
      · rw [if_neg (by omega)] at hq
        rw [jkl_i, toInt32_nL]
        have e5 : nI (pl S (fnd S u)) + a - 1 = nI (pl S (fnd S u) + a.toInt.toNat - 1) := by
          have : nI (pl S (fnd S u)) + nI a.toInt.toNat - 1 = nI (pl S (fnd S u) + a.toInt.toNat - 1) := by rw [nI_add, show (1 : Int32) = nI 1 from rfl, pk_sub (by omega)]
          rw [← ei] at this; exact this
        rw [e5]; exact hq
      · rw [if_pos (by omega)] at hq; exact hq
  · rw [if_pos c] at hq
    unfold rfu
    rw [if_neg c]; exact hq
theorem WA.tt (W : WA S) (hd : ¬ laid S = 0) : tot S ≤ 20000 ∧ laid S = 1 := by
  obtain ⟨l1, l2⟩ := W.2.2.2.2.2.1
  obtain ⟨-, a, b, -⟩ := l2 (by omega)
  exact ⟨by omega, by omega⟩
theorem m_at (M : RM h S m) (W : WA S) {u : Int32} (hQ : ∀ h', RM h' S m → FMb m h h' → ∀ v, (sat S u = some v → ji h' 512 m = 0 → Q (.inl (some (.inl v))) h') ) (hX : sat S u = none → ∀ h' v, RM h' S m → FMb m h h' → ji h' 512 m = 1 → Q (.inl (some (.inl v))) h') : jM g mX10_at [.inr (.inr (some m)), .inl u] h 0 0 Q := by
  have hN := W.n
  have no : sat S u = none → VX10_at_25 g m u (some m) 1 h 0 0 Q := by
    intro z
    refine ⟨jsn, M.t, fun h3 e3 => ?_⟩
    rw [jd_s] at e3
    have M3 : RM h3 S m := by rw [e3]; exact M.th
    have e12 : ji h3 512 m = 1 := by rw [e3, ji_si, if_pos ⟨rfl, rfl⟩]
    refine ⟨M3.t, fun _ => ⟨rfl, hX z h3 0 M3 (FMb.si e3 (by decide)) e12⟩, fun c => absurd (e12.symm.trans c) (by decide)⟩
  refine eX10_at ⟨M.t, ?_⟩
  rw [M.ld W]
  refine ⟨fun c => no (by unfold sat; rw [if_neg (by omega)]), fun c => ?_⟩
  obtain ⟨t1, t2⟩ := W.tt c
  obtain ⟨e36, -, eb, -⟩ := M.2.2.2.2.2.2.2.2 t2
  have z1 : u < 0 ↔ u.toInt < 0 := by rw [Int32.lt_iff_toInt_lt]; rfl
  have z2 : nI (tot S) ≤ u ↔ (tot S : Int) ≤ u.toInt := by rw [Int32.le_iff_toInt_le, nI_toInt (by omega)]
  rw [e36, z1, z2]
  refine ⟨fun q => no (by unfold sat; rw [if_neg (by omega)]), fun q => ⟨fun q2 => no (by unfold sat; rw [if_neg (by omega)]), fun q2 => ?_⟩⟩
  have es : sat S u = some (bv S u.toInt.toNat) := by unfold sat; rw [if_pos ⟨t2, by omega, by omega⟩]
  have eu : u = nI u.toInt.toNat := nI_of0 (by omega)
  refine ⟨jsn, M.t, fun h3 e3 => ?_⟩
  rw [jd_s] at e3
  have M3 : RM h3 S m := by rw [e3]; exact M.th
  have e12 : ji h3 512 m = 0 := by rw [e3, ji_si, if_pos ⟨rfl, rfl⟩]
  obtain ⟨k1, k2, k3⟩ := M3.s.k20
  have eb3 := (M3.2.2.2.2.2.2.2.2 t2).2.2.1 u.toInt.toNat (by omega)
  have cl : u.toNatClampNeg = u.toInt.toNat := rfl
  have hy : (bv S u.toInt.toNat).toInt8.toInt32 = bv S u.toInt.toNat := W.2.2.2.2.2.2.2 _
  refine ⟨M3.t, fun c2 => absurd e12 c2, fun _ => ?_⟩
  rw [k1, jd_s, k3, cl, eb3]
  refine ⟨jsn, k2, by rw [eu]; exact vp_in_nI (by omega) (by decide), ?_, hQ h3 M3 (FMb.si e3 (by decide)) _ es e12⟩
  show Value.int ((bv S u.toInt.toNat).toInt8.toInt32) = _
  rw [hy]
theorem m_octet (M : RM h S m) (W : WA S) {u v : Int32} (hQ : ∀ h', RM h' (soct S u v).2 m → FMb m h h' → Q (.inl (some (.inl (soct S u v).1))) h') : jM g mX10_octet [.inr (.inr (some m)), .inl u, .inl v] h 0 0 Q := by
  have hN := W.n
  refine eX10_octet ⟨M.t, fun h2 e2 => ?_⟩
  have M2 : RM h2 S m := by rw [e2]; exact M.th
  have f2 : FMb m h h2 := FMb.si e2 (by decide)
  have z1 : u < 0 ↔ u.toInt < 0 := by rw [Int32.lt_iff_toInt_lt]; rfl
  have z2 : (20000 : Int32) ≤ u ↔ 20000 ≤ u.toInt := by rw [Int32.le_iff_toInt_le]; rfl
  have g4 : soct S u v = (-4, S) → Q (.inl (some (.inl (-4)))) h2 := fun e => by rw [e] at hQ; exact hQ h2 M2 f2
  rw [z1, z2, M2.ld W]
  refine ⟨fun c => g4 (by unfold soct; rw [if_pos (Or.inl c)]), fun c => ⟨fun c2 => g4 (by unfold soct; rw [if_pos (Or.inr c2)]), fun c2 => ?_⟩⟩
  have n1 : ¬ (u.toInt < 0 ∨ 20000 ≤ u.toInt) := by omega
  refine ⟨fun l => ⟨M2.t, fun w => absurd ((M2.ld W).mpr l) w, fun _ => ?_⟩, fun l => ?_⟩
  · have e : soct S u v = (-5, S) := by unfold soct; rw [if_neg n1, if_pos l]
    rw [e] at hQ; exact hQ h2 M2 f2
  · obtain ⟨t1, t2⟩ := W.tt l
    obtain ⟨e36, e37, eb, el⟩ := M2.2.2.2.2.2.2.2.2 t2
    have z3 : u < nI (tot S) ↔ u.toInt < (tot S : Int) := by rw [Int32.lt_iff_toInt_lt, nI_toInt (by omega)]
    rw [e36, z3]
    refine ⟨fun q => ⟨M2.t, fun _ => ?_, fun w => absurd ((M2.ld W).mp w) l⟩, fun q => g4 (by unfold soct; rw [if_neg n1, if_neg l, if_pos (by omega)])⟩
    have es : soct S u v = (1, sput S u.toInt.toNat (b8 v)) := by unfold soct; rw [if_neg n1, if_neg l, if_neg (by omega)]
    rw [es] at hQ
    have eu : u = nI u.toInt.toNat := nI_of0 (by omega)
    have fin := s_put (P := fun h6 => Q (.inl (some (.inl 1))) h6) (v := v.toInt8.toInt32) M2.s (k := u.toInt.toNat) (by omega) (fun h6 F6 e6 => by
      refine hQ h6 ?_ (f2.trans F6.ml.1)
      obtain ⟨m1, m2, m3, m4, m5, m6, m7, m8, m9⟩ := M2
      have fm6 := F6.ml.1
      obtain ⟨-, -, -, y4, -, -, y7, -, y9⟩ := F6
      refine ⟨m1.fm ?_, by rw [y4]; exact m2, by rw [y4]; exact m3, by rw [y4]; exact m4, by rw [y4]; exact m5, fun j i x1 x2 x3 x4 => ?_, fun i x1 x2 => ?_, fun i k x1 x2 x3 => ?_, fun _ => ⟨by rw [y4]; exact e36, by rw [y4]; exact e37, fun k hk => ?_, ?_⟩⟩
      · exact fm6
      · rw [y9 _ (by omega), m6 j i x1 x2 x3 x4]
        unfold mV
        by_cases j12 : j = 12
        · rw [if_pos j12, if_pos j12]
          have q0 : vl (sput S u.toInt.toNat (b8 v)) i = vl S i := by
            show (if (0 : Nat) = 30 ∧ i = u.toInt.toNat then b8 v else S.2 0 i) = S.2 0 i
            rw [if_neg (by omega)]
          rw [q0]
        · rw [if_neg j12, if_neg j12]; rfl
      · rw [y9 _ (by omega)]; exact m7 i x1 x2
      · have x3' : k < rg S i := x3
        have w8 : rg S i ≤ 8 := W.1.2.2.2.2.2.2.2.2.2.1 i
        have q1 : rf (sput S u.toInt.toNat (b8 v)) k i = rf S k i := if_neg (by omega)
        have q2 : rt (sput S u.toInt.toNat (b8 v)) k i = rt S k i := if_neg (by omega)
        rw [q1, q2, y9 _ (by omega), y9 _ (by omega)]
        exact m8 i k x1 x2 x3'
      · have hk' : k < tot S := hk
        rw [e6]
        unfold wr1
        show _ = if (30 : Nat) = 30 ∧ k = u.toInt.toNat then b8 v else S.2 30 k
        by_cases w : k = u.toInt.toNat
        · rw [if_pos w, if_pos ⟨rfl, w⟩]; rfl
        · rw [if_neg w, if_neg (fun z => w z.2)]
          exact eb k hk'
      · rw [y7]; exact el)
    rw [← eu] at fin
    exact fin
theorem m_count (M : RM h S m) (W : WA S) {u : Int32} (hQ : ∀ h', RM h' S m → FMb m h h' → Q (.inl (some (.inl (scount S u)))) h') : jM g mX10_count [.inr (.inr (some m)), .inl u] h 0 0 Q := by
  have hN := W.n
  have F := W.1
  refine eX10_count ⟨M.t, fun h2 e2 => ?_⟩
  have M2 : RM h2 S m := by rw [e2]; exact M.th
  have f2 : FMb m h h2 := FMb.si e2 (by decide)
  have hq := hQ h2 M2 f2
  have go : ∀ v, scount S u = v → Q (.inl (some (.inl v))) h2 := fun v e => by rw [← e]; exact hq
  have loop : ∀ n j, j + n = sN S → jG g mX10_count 12 [(0, .inr (.inr (some m))), (1, .inl u), (2, .inl (nI (cnt (fun i => decide (rc S i = i)) j))), (3, .inl (nI (cnt (fun i => decide (¬ tb S i = 0)) j))), (4, .inl (nI (j + 1)))] [] h2 0 0 Q := by
    intro n
    induction n with
    | zero =>
      intro j e
      have ej : j = sN S := by omega
      subst ej
      refine vX10_count_12 ⟨M2.t, fun _ => ?_, fun c => absurd (by rw [M2.2.1, nI_ltI (by omega) (by omega)]; omega) c⟩
      rw [M2.ld W, M2.2.1]
      have l3 : ¬ laid S = 0 → ji h2 537 m = nI (sumN (sk S) (sN S)) ∧ ji h2 536 m = nI (tot S) := fun l => by
        obtain ⟨e36, e37, -⟩ := M2.2.2.2.2.2.2.2.2 (W.tt l).2
        exact ⟨e37, e36⟩
      refine ⟨fun z => go _ ?_, fun z => go _ ?_, fun z => go _ ?_, fun z => ⟨fun l => go _ ?_, fun l => ?_⟩, fun z => ⟨fun l => go _ ?_, fun l => ?_⟩, fun z => go _ ?_⟩
      · unfold scount; rw [if_pos z]
      · subst z; rfl
      · subst z; rfl
      · subst z
        show (if laid S = 0 then _ else _) = _
        rw [if_pos l]
      · rw [(l3 l).1]
        refine go _ ?_
        subst z
        show (if laid S = 0 then _ else _) = _
        rw [if_neg l]
      · subst z
        show (if laid S = 0 then _ else _) = _
        rw [if_pos l]
      · rw [(l3 l).2]
        refine go _ ?_
        subst z
        show (if laid S = 0 then _ else _) = _
        rw [if_neg l]
      · have ne : ∀ v : Int32, 0 ≤ v.toInt → v.toInt ≤ 4 → ¬ u = v := fun v a b w => by rw [w] at z; omega
        unfold scount
        rw [if_neg (ne 0 (by decide) (by decide)), if_neg (ne 1 (by decide) (by decide)), if_neg (ne 2 (by decide) (by decide)), if_neg (ne 3 (by decide) (by decide)), if_neg (ne 4 (by decide) (by decide))]
    | succ n ih =>
      intro j e
      have hj : j + 1 ≤ sN S := by omega
      obtain ⟨a1, a2, a3, a4⟩ := M2.alv (i := j + 1) (by omega) (by omega)
      obtain ⟨b1, b2, b3, b4⟩ := M2.atb (i := j + 1) (by omega) (by omega)
      have wl := F.lv (j + 1)
      have wt := F.2.2.2.2.2.1 (j + 1)
      have A := W.2.1 (j + 1) (by omega) hj
      have e1 : nI (lv S (j + 1)) = 1 ↔ lv S (j + 1) = 1 := nI_eq (b := 1) (by omega) (by decide)
      have e7 : nI (lv S (j + 1)) = 77 ↔ lv S (j + 1) = 77 := nI_eq (b := 77) (by omega) (by decide)
      have h50 : ∀ w : Nat, w = (if rc S (j + 1) = j + 1 then 1 else 0) → VX10_count_50 g m u (nI (cnt (fun i => decide (¬ tb S i = 0)) j)) (nI (j + 1)) (nI (cnt (fun i => decide (rc S i = i)) j)) (nI w) h2 0 0 Q := by
        intro w hw
        have s1 : cnt (fun i => decide (rc S i = i)) (j + 1) = cnt (fun i => decide (rc S i = i)) j + w := by
          show _ + (if decide _ = true then 1 else 0) = _
          rw [hw]
          simp only [decide_eq_true_eq]
        refine ⟨M2.t, b1, b2, b3, ?_⟩
        rw [b4, le0 (by omega), nI_add, ← s1, nI_1]
        have s2 : cnt (fun i => decide (¬ tb S i = 0)) (j + 1) = cnt (fun i => decide (¬ tb S i = 0)) j + if ¬ tb S (j + 1) = 0 then 1 else 0 := by
          show _ + (if decide _ = true then 1 else 0) = _
          simp only [decide_eq_true_eq]
        have nx := ih (j + 1) (by omega)
        rw [s2] at nx
        refine ⟨fun z => ?_, fun z => ?_⟩
        · rw [if_neg (fun y => y z)] at nx
          rw [show (0 : Int32) = nI 0 from rfl, nI_add]; exact nx
        · rw [if_pos z] at nx
          rw [nI_1]; exact nx
      refine vX10_count_12 ⟨M2.t, fun c => absurd c (by rw [M2.2.1, nI_ltI (by omega) (by omega)]; omega), fun _ => ⟨a1, a2, a3, ?_⟩⟩
      rw [a4, e1, e7]
      have rc1 : lv S (j + 1) = 1 ∨ lv S (j + 1) = 77 → rc S (j + 1) = j + 1 := A.2.2.2.2.2.1
      have rc0 : ¬ (lv S (j + 1) = 1 ∨ lv S (j + 1) = 77) → ¬ rc S (j + 1) = j + 1 := fun q => by
        have q2 := A.2.2.2.2.2.2.1 q
        have q3 : rc S j ≤ j := F.2.2.2.2.2.2.2.2.2.2.2.1 j
        have q4 : rc S (j + 1) = rc S j := q2.2
        omega
      exact ⟨fun c => h50 1 (by rw [if_pos (rc1 (Or.inl c))]), fun c => ⟨fun c2 => h50 0 (by rw [if_neg (rc0 (by omega))]), fun c2 => h50 1 (by rw [if_pos (rc1 (Or.inr c2))])⟩⟩
  exact loop (sN S) 0 (by omega)
end ModN
