/-! the reference reads numbers -/
theorem hb_tab : ∀ n, n < 256 → (b8 (nI n) >>> ((4 : Int32) &&& 31)) &&& 15 = nI (n / 16) ∧ (b8 (nI n) >>> ((0 : Int32) &&& 31)) &&& 15 = nI (n % 16) := by decide +kernel
theorem sh_or (x : Int64) {o : Nat} (ho : o < 256) : (x <<< ((8 : Int32).toInt64 &&& 63)) ||| nL o = x * 256 + nL o := by
  have e8 : (8 : Int32).toInt64 &&& 63 = 8 := by decide
  rw [e8]
  rw [← Int64.toBitVec_inj]
  rw [Int64.toBitVec_or, Int64.toBitVec_add, Int64.toBitVec_mul]
  have e1 : (x <<< (8 : Int64)).toBitVec = x.toBitVec <<< 8 := by
    rw [Int64.toBitVec_shiftLeft]
    rfl
  have e2 : (nL o).toBitVec = BitVec.ofNat 64 o := rfl
  have e3 : (256 : Int64).toBitVec = BitVec.ofNat 64 256 := rfl
  rw [e1, e2, e3]
  apply BitVec.eq_of_toNat_eq
  rw [BitVec.toNat_or, BitVec.toNat_shiftLeft, BitVec.toNat_add, BitVec.toNat_mul, BitVec.toNat_ofNat, BitVec.toNat_ofNat]
  have hx := x.toBitVec.isLt
  generalize x.toBitVec.toNat = n at *
  have o1 : o % 2 ^ 64 = o := Nat.mod_eq_of_lt (by omega)
  have o2 : n <<< 8 % 2 ^ 64 = (n % 2 ^ 56) <<< 8 := by
    rw [Nat.shiftLeft_eq, Nat.shiftLeft_eq]; omega
  rw [o1, o2, ← Nat.shiftLeft_add_eq_or_of_lt (by omega : o < 2 ^ 8), Nat.shiftLeft_eq]
  omega
section ModP
variable {g : jg} {h h' h1 : jh} {S : sg} {m : Nat} {Q : jq}
theorem RM.sl {v : Int64} (M : RM h S m) (e : h' = jsl h 547 m v) : RM h' S m := by rw [e]; exact M
/-- a byte read -/
theorem m_byte (M : RM h S m) (W : WA S) (hd : ¬ laid S = 0) {k : Nat} (hk : k < tot S) : (¬ (jr h 538 m) = none) ∧ (jt h (jd (jr h 538 m)) = 21) ∧ (vp_in (nI k) (jn h (jd (jr h 538 m)))) ∧ jI h (jd (jr h 538 m)) (nI k : Int32).toNatClampNeg = b8 (nI (ob (bv S) k)) := by
  obtain ⟨t1, t2⟩ := W.tt hd
  obtain ⟨k1, k2, k3⟩ := M.s.k20
  have eb := (M.2.2.2.2.2.2.2.2 t2).2.2.1 k hk
  rw [k1, jd_s, k3, nI_clamp (by omega), eb]
  refine ⟨jsn, k2, vp_in_nI (by omega) (by decide), ?_⟩
  have e : bv S k &&& 255 = nI (ob (bv S) k) := pk_and (bv S k) 8 (by decide)
  rw [← e, b8_and32]
  exact (W.2.2.2.2.2.2.2 k).symm
theorem b8_255 : ∀ n, n < 256 → b8 (nI n) &&& 255 = nI n := by decide +kernel
theorem m_says35 (M : RM h S m) (W : WA S) (hd : ¬ laid S = 0) {p n : Nat} (hn : 1 ≤ n) (hp : p + n ≤ tot S) (hQ : ∀ h', RM h' S m → FMb m h h' → jl h' 547 m = rbn (bv S) p (n - 1) → Q (.inl (some (.inl 1))) h') : jG g mX10_says 35 [(0, .inr (.inr (some m))), (2, .inl (nI p)), (3, .inl (nI n)), (4, .inl (nI 0))] [] h 0 0 Q := by
  obtain ⟨t1, t2⟩ := W.tt hd
  have loop : ∀ d k (h1 : jh), k + d + 1 = n → RM h1 S m → FMb m h h1 → jl h1 547 m = rbn (bv S) p k → jG g mX10_says 35 [(0, .inr (.inr (some m))), (2, .inl (nI p)), (3, .inl (nI n)), (4, .inl (nI (k + 1)))] [] h1 0 0 Q := by
    intro d
    induction d with
    | zero =>
      intro k h1 e M1 f1 ej
      have ek : k = n - 1 := by omega
      subst ek
      exact vX10_says_35 ⟨fun _ => hQ h1 M1 f1 ej, fun c => absurd ((nI_leI (by omega) (by omega)).mpr (by omega)) c⟩
    | succ d ih =>
      intro k h1 e M1 f1 ej
      have ol := ob_lt (bv S) (p + (k + 1))
      obtain ⟨a1, a2, a3, a4⟩ := m_byte M1 W hd (k := p + (k + 1)) (by omega)
      have z0 : nI (k + 1) = 0 ↔ k + 1 = 0 := nI_eq (b := 0) (by omega) (by decide)
      refine vX10_says_35 ⟨fun c => absurd ((nI_leI (by omega) (by omega)).mp c) (by omega), fun _ => ?_⟩
      rw [z0, nI_add, a4, b8_255 _ ol, nI_toInt64 (by omega), sh_or _ ol, ej, nI_1]
      refine ⟨fun _ => ⟨M1.t, a1, a2, a3, fun h2 e2 => ih (k + 1) h2 (by omega) (M1.sl e2) (f1.trans (FMb.sl e2 (by decide))) ?_⟩, fun c => by omega⟩
      rw [e2, jl_sl, if_pos ⟨rfl, rfl⟩]; rfl
  obtain ⟨a1, a2, a3, a4⟩ := m_byte M W hd (k := p) (by omega)
  refine vX10_says_35 ⟨fun c => absurd ((nI_leI (by omega) (by omega)).mp c) (by omega), fun _ => ⟨fun c => absurd rfl c, fun _ => ⟨M.t, a1, a2, a3, fun h2 e2 => ?_⟩⟩⟩
  rw [a4] at e2
  rw [nI_1]
  refine loop (n - 1) 0 h2 (by omega) (M.sl e2) (FMb.sl e2 (by decide)) ?_
  rw [e2, jl_sl, if_pos ⟨rfl, rfl⟩]; rfl
theorem m_saysPacked (M : RM h S m) (W : WA S) (hd : ¬ laid S = 0) {i p n : Nat} (i1 : 1 ≤ i) (i2 : i ≤ sN S) (hu : us S i = 7) (en : n = byi S i) (hdg : 1 ≤ dg S i ∧ dg S i ≤ 18) (hp : p + n ≤ tot S) (e0 : jl h 547 m = nL 0) (hQ : ∀ h' v, rpk (bv S) p n (dg S i) = some v → RM h' S m → FMb m h h' → jl h' 547 m = v → Q (.inl (some (.inl 1))) h') (hX : rpk (bv S) p n (dg S i) = none → ∀ h', RM h' S m → FMb m h h' → Q (.inl (some (.inl 0))) h') : jM g mX10_saysPacked [.inr (.inr (some m)), .inl (nI i), .inl (nI p), .inl (nI n)] h 0 0 Q := by
  have hN := W.n
  obtain ⟨t1, t2⟩ := W.tt hd
  have hb : n = dg S i / 2 + 1 := by rw [en]; unfold byi byts; simp [hu]
  have e2n : (2 : Int32) * nI n = nI (2 * n) := pk_mul 2 n
  have e2m : nI (2 * n) - 1 = nI (2 * n - 1) := pk_sub (b := 1) (by omega)
  obtain ⟨d1, d2, d3, d4⟩ := M.adg i1 (by omega)
  -- one half byte
  have half : ∀ j (h1 : jh) (P : Int32 → Int32 → Prop), RM h1 S m → j < 2 * n → (∀ s0 s1 : Int32, (s0 >>> (s1 &&& 31)) &&& 15 = nI (hbn (bv S) p j) → P s0 s1) → (¬ (jr h1 538 m) = none) ∧ (jt h1 (jd (jr h1 538 m)) = 21) ∧ (vp_in (nI p + nI j / 2) (jn h1 (jd (jr h1 538 m)))) ∧ ((¬ (nI j - nI j / 2 * 2) = 0 → P (jI h1 (jd (jr h1 538 m)) (nI p + nI j / 2).toNatClampNeg) 0) ∧ ((nI j - nI j / 2 * 2) = 0 → P (jI h1 (jd (jr h1 538 m)) (nI p + nI j / 2).toNatClampNeg) 4)) := by
    intro j h1 P M1 hj hP
    have ej : nI j / 2 = nI (j / 2) := pk_div (d := 2) (by omega) (by decide) (by decide)
    obtain ⟨a1, a2, a3, a4⟩ := m_byte M1 W hd (k := p + j / 2) (by omega)
    have ol := ob_lt (bv S) (p + j / 2)
    have z0 : nI (j % 2) = 0 ↔ j % 2 = 0 := nI_eq (b := 0) (by omega) (by decide)
    rw [rem2 (by omega), z0, ej, nI_add, a4]
    refine ⟨a1, a2, a3, fun c => hP _ _ ?_, fun c => hP _ _ ?_⟩
    · unfold hbn; rw [if_neg c]; exact (hb_tab _ ol).2
    · unfold hbn; rw [if_pos c]; exact (hb_tab _ ol).1
  have loop : ∀ d k acc (h1 : jh), k + d = 2 * n - 1 → RM h1 S m → FMb m h h1 → jl h1 547 m = nL acc → pkn (bv S) p d k acc = pkn (bv S) p (dg S i) (2 * n - 1 - dg S i) 0 → jG g mX10_saysPacked 18 [(0, .inr (.inr (some m))), (2, .inl (nI p)), (3, .inl (nI n)), (5, .inl (nI k))] [] h1 0 0 Q := by
    intro d
    induction d with
    | zero =>
      intro k acc h1 e M1 f1 ej eq
      have ek : k = 2 * n - 1 := by omega
      subst ek
      have er : rpk (bv S) p n (dg S i) = if ¬ hbn (bv S) p (2 * n - 1) = 12 ∧ ¬ hbn (bv S) p (2 * n - 1) = 13 ∧ ¬ hbn (bv S) p (2 * n - 1) = 15 then none else some (if hbn (bv S) p (2 * n - 1) = 13 then -nL acc else nL acc) := by
        unfold rpk
        rw [← eq]; rfl
      refine vX10_saysPacked_18 ⟨fun c => absurd c (by rw [e2n, nI_leI (by omega) (by omega)]; omega), fun _ => ⟨M1.t, half _ h1 (fun s0 s1 => VX10_saysPacked_49 g m (nI p) (nI n) (nI (2 * n - 1)) s0 s1 h1 0 0 Q) M1 (by omega) (fun s0 s1 es => ?_)⟩⟩
      have hl := hbn_lt (A := bv S) p (2 * n - 1)
      have z12 : nI (hbn (bv S) p (2 * n - 1)) = 12 ↔ hbn (bv S) p (2 * n - 1) = 12 := nI_eq (b := 12) (by omega) (by decide)
      have z13 : nI (hbn (bv S) p (2 * n - 1)) = 13 ↔ hbn (bv S) p (2 * n - 1) = 13 := nI_eq (b := 13) (by omega) (by decide)
      have z15 : nI (hbn (bv S) p (2 * n - 1)) = 15 ↔ hbn (bv S) p (2 * n - 1) = 15 := nI_eq (b := 15) (by omega) (by decide)
      have end1 : ∀ h2 v, rpk (bv S) p n (dg S i) = some v → h2 = jsl h1 547 m v → jG g mX10_saysPacked 18 [(0, .inr (.inr (some m))), (2, .inl (nI p)), (3, .inl (nI n)), (5, .inl (nI (2 * n - 1) + 1))] [] h2 0 0 Q := by
        intro h2 v ev e2
        rw [nI_1]
        refine vX10_saysPacked_18 ⟨fun _ => hQ h2 v ev (M1.sl e2) (f1.trans (FMb.sl e2 (by decide))) (by rw [e2, jl_sl, if_pos ⟨rfl, rfl⟩]), fun c => absurd (by rw [e2n, nI_leI (by omega) (by omega)]; omega) c⟩
      have fin : ¬ (¬ hbn (bv S) p (2 * n - 1) = 12 ∧ ¬ hbn (bv S) p (2 * n - 1) = 13 ∧ ¬ hbn (bv S) p (2 * n - 1) = 15) → VX10_saysPacked_116 g m (nI p) (nI n) (nI (2 * n - 1)) (nI (hbn (bv S) p (2 * n - 1))) h1 0 0 Q := fun q => by
        rw [if_neg q] at er
        unfold VX10_saysPacked_116
        rw [z13, ej]
        refine ⟨fun c => ⟨M1.t, fun h2 e2 => end1 h2 _ er ?_⟩, fun c => ⟨M1.t, fun h2 e2 => end1 h2 _ er ?_⟩⟩
        · rw [if_neg c]; exact e2
        · rw [if_pos c]; exact e2
      unfold VX10_saysPacked_49
      rw [es, e2n, e2m, z12, z13, z15]
      refine ⟨fun _ => ⟨fun c => fin (fun q => q.1 c), fun c => ⟨fun c2 => fin (fun q => q.2.1 c2), fun c2 => ⟨fun c3 => fin (fun q => q.2.2 c3), fun c3 => ?_⟩⟩⟩, fun c => absurd (Int32.le_refl _) c⟩
      rw [if_pos ⟨c, c2, c3⟩] at er
      exact hX er h1 M1 f1
    | succ d ih =>
      intro k acc h1 e M1 f1 ej eq
      have eq' : (if 9 < hbn (bv S) p k then none else pkn (bv S) p d (k + 1) (acc * 10 + hbn (bv S) p k)) = pkn (bv S) p (dg S i) (2 * n - 1 - dg S i) 0 := eq
      refine vX10_saysPacked_18 ⟨fun c => absurd c (by rw [e2n, nI_leI (by omega) (by omega)]; omega), fun _ => ⟨M1.t, half _ h1 (fun s0 s1 => VX10_saysPacked_49 g m (nI p) (nI n) (nI k) s0 s1 h1 0 0 Q) M1 (by omega) (fun s0 s1 es => ?_)⟩⟩
      have hl := hbn_lt (A := bv S) p k
      have z9 : nI (hbn (bv S) p k) ≤ 9 ↔ hbn (bv S) p k ≤ 9 := nI_leI (b := 9) (by omega) (by decide)
      unfold VX10_saysPacked_49
      rw [es, e2n, e2m, nI_leI (by omega) (by omega), z9, nI_toInt64 (by omega), ej, show (10 : Int64) = nL 10 from rfl, nL_mul, nL_add, nI_1]
      refine ⟨fun c => absurd c (by omega), fun _ => ⟨fun c => ⟨M1.t, fun h2 e2 => ?_⟩, fun c => ?_⟩⟩
      · rw [if_neg (by omega)] at eq'
        refine ih (k + 1) _ h2 (by omega) (M1.sl e2) (f1.trans (FMb.sl e2 (by decide))) ?_ eq'
        rw [e2, jl_sl, if_pos ⟨rfl, rfl⟩, Nat.mul_comm]
      · rw [if_pos (by omega)] at eq'
        refine hX ?_ h1 M1 f1
        unfold rpk
        rw [← eq']
  have es : nI (2 * n - 1) - nI (dg S i) = nI (2 * n - 1 - dg S i) := pk_sub (by omega)
  refine eX10_saysPacked ⟨M.t, d1, d2, d3, ?_⟩
  rw [d4, e2n, e2m, es]
  exact loop (dg S i) (2 * n - 1 - dg S i) 0 h (by omega) M FMb.rf e0 rfl
end ModP
