/-! the reference: says -/
section ModS
variable {g : jg} {h h' h1 : jh} {S : sg} {m : Nat} {Q : jq}
theorem dgn_neg {A : Nat → Int32} {q s : Nat} : ∀ d k acc neg, k + d ≤ s → dgn A q s d k acc neg = (dgn A q s d k acc false).map (fun r => (r.1, neg)) := by
  intro d
  induction d with
  | zero => intro k acc neg _; rfl
  | succ d ih =>
    intro k acc neg hk
    have dn : ∀ b, dgn A q s (d + 1) k acc b = if dgo A q s k < 48 ∨ 57 < dgo A q s k then none else dgn A q s d (k + 1) (acc * 10 + dgo A q s k - 48) (if k = s ∧ 57 < ob A (q + k) then true else b) := fun _ => rfl
    rw [dn, dn, if_neg (c := k = s ∧ 57 < ob A (q + k)) (by omega), if_neg (c := k = s ∧ 57 < ob A (q + k)) (by omega)]
    split
    · rfl
    · exact ih _ _ _ (by omega)
theorem m_says (M : RM h S m) (W : WA S) (hd : ¬ laid S = 0) {i : Nat} (i1 : 1 ≤ i) (i2 : i ≤ sN S) (hl : lies S i = true) (hu : 3 ≤ us S i ∧ us S i ≤ 8) (hdg : 1 ≤ dg S i ∧ dg S i ≤ 18) (hp : pl S i + byi S i ≤ tot S) (hQ : ∀ h' v, rdn S (bv S) i = some v → RM h' S m → FMb m h h' → jl h' 547 m = v → Q (.inl (some (.inl 1))) h') (hX : rdn S (bv S) i = none → ∀ h', RM h' S m → FMb m h h' → Q (.inl (some (.inl 0))) h') : jM g mX10_says [.inr (.inr (some m)), .inl (nI i)] h 0 0 Q := by
  have hN := W.n
  obtain ⟨t1, t2⟩ := W.tt hd
  obtain ⟨v1, v2, v3, v4⟩ := M.rl W hd i1 i2 hl
  obtain ⟨k1, k2, k3⟩ := M.s.k21
  obtain ⟨l1, l2, l3⟩ := M.s.k22
  have lnE : ln S i = byi S i := by
    have r0 : rn S i = 0 := by
      by_cases w : rn S i = 0
      · exact w
      · have := ((W.2.2.1.2.2.2.2.2.2.2.2.1 i).2 w).2.2.1
        have := lies_of hl
        omega
    have q := ((INV.mf (b := true) W.wb).1 i i1 i2 hl).2.2.1 (by omega)
    have q' : sF S 1 i = sF S 0 i + byi S i := q
    rw [(W.plc hd i).2.2.1, if_pos r0]; omega
  rw [lnE] at v2
  have by5 : us S i = 5 ∨ us S i = 6 → byi S i = dg S i + 1 := fun c => by
    unfold byi byts
    rw [if_neg (by omega), if_neg (by omega), if_pos c]
  have by3 : us S i = 3 ∨ us S i = 4 → byi S i = dg S i := fun c => by
    unfold byi byts
    rw [if_pos (by omega)]
  refine eX10_says ⟨M.t, ?_⟩
  rw [k1, jd_s, k3, l1, jd_s, l3, nI_clamp (by omega), v1, v2, toInt32_nL, toInt32_nL]
  refine ⟨jsn, k2, vp_in_nI (by omega) (by decide), jsn, l2, vp_in_nI (by omega) (by decide), fun h2 e2 => ?_⟩
  have M2 := M.sl e2
  have f2 : FMb m h h2 := FMb.sl e2 (by decide)
  have ej : jl h2 547 m = nL 0 := by rw [e2, jl_sl, if_pos ⟨rfl, rfl⟩]; rfl
  obtain ⟨u1, u2, u3, u4⟩ := M2.aus i1 (by omega)
  have zu : ∀ k : Nat, k < 100 → (nI (us S i) = nI k ↔ us S i = k) := fun k hk => nI_eq (by omega) (by omega)
  have z3 : nI (us S i) = 3 ↔ us S i = 3 := zu 3 (by decide)
  have z6 : nI (us S i) = 6 ↔ us S i = 6 := zu 6 (by decide)
  have z7 : nI (us S i) = 7 ↔ us S i = 7 := zu 7 (by decide)
  have z8 : nI (us S i) = 8 ↔ us S i = 8 := zu 8 (by decide)
  rw [nI_clamp (by omega)] at u4
  rw [u4, z3, z6, z7, z8]
  have hQ2 : ∀ h' v, rdn S (bv S) i = some v → RM h' S m → FMb m h2 h' → jl h' 547 m = v → Q (.inl (some (.inl 1))) h' := fun h' v a b c d => hQ h' v a b (f2.trans c) d
  have hX2 : rdn S (bv S) i = none → ∀ h', RM h' S m → FMb m h2 h' → Q (.inl (some (.inl 0))) h' := fun a h' b c => hX a h' b (f2.trans c)
  have em1 : nI (byi S i) - 1 = nI (byi S i - 1) := pk_sub (b := 1) (by
    rcases (by omega : (us S i = 3 ∨ us S i = 4) ∨ (us S i = 5 ∨ us S i = 6) ∨ us S i = 7 ∨ us S i = 8) with c | c | c | c
    · rw [by3 c]; omega
    · rw [by5 c]; omega
    · unfold byi byts; simp [c]
    · unfold byi byts; simp [c]; split <;> (try split) <;> omega)
  refine ⟨u1, u2, u3, fun n8 => ⟨fun n7 => ⟨fun c3 => ?_, fun c3 => ⟨fun c6 => ?_, fun c6 => ?_⟩⟩, fun c7 => ?_⟩, fun c8 => ?_⟩
  · -- a sign in the last digit
    have er : rdn S (bv S) i = dgv (dgn (bv S) (pl S i) (dg S i - 1) (dg S i) 0 0 false) := by
      unfold rdn
      rw [if_neg n8, if_neg n7, if_pos c3]
    have eb := by3 (Or.inl c3)
    unfold VX10_says_130
    rw [em1, eb]
    refine m_alldig (off := 0) (p := pl S i) (n := dg S i) (s := dg S i - 1) (s' := dg S i - 1) M2 W hd i1 i2 (by omega) (by omega) (by omega) ej (fun _ _ _ => by omega) (fun k _ => by omega) rfl (fun z h' M' f' => hX2 (by rw [er]; exact congrArg dgv z) h' M' f') (fun acc neg' h' z M' f' j' => ?_)
    rw [Nat.zero_add]
    exact m_saysEnd M' W j' (fun h3 M3 f3 j3 => hQ2 h3 _ (by rw [er]; exact congrArg dgv z) M3 (f'.trans f3) j3)
  · by_cases c4 : us S i = 4
    · have er : rdn S (bv S) i = dgv (dgn (bv S) (pl S i) 0 (dg S i) 0 0 false) := by
        unfold rdn
        rw [if_neg n8, if_neg n7, if_neg c3, if_pos c4]
      have eb := by3 (Or.inr c4)
      rw [eb]
      refine m_alldig (off := 0) (p := pl S i) (n := dg S i) (s := 0) (s' := 0) M2 W hd i1 i2 (by omega) (by omega) (by omega) ej (fun _ _ _ => by omega) (fun k _ => by omega) rfl (fun z h' M' f' => hX2 (by rw [er]; exact congrArg dgv z) h' M' f') (fun acc neg' h' z M' f' j' => ?_)
      rw [Nat.zero_add]
      exact m_saysEnd M' W j' (fun h3 M3 f3 j3 => hQ2 h3 _ (by rw [er]; exact congrArg dgv z) M3 (f'.trans f3) j3)
    · have c5 : us S i = 5 := by omega
      have eb := by5 (Or.inl c5)
      have er : rdn S (bv S) i = if ¬ ob (bv S) (pl S i) = 43 ∧ ¬ ob (bv S) (pl S i) = 45 then none else dgv (dgn (bv S) (pl S i + 1) (dg S i) (dg S i) 0 0 (decide (ob (bv S) (pl S i) = 45))) := by
        unfold rdn
        rw [if_neg (c := us S i = 8) n8, if_neg (c := us S i = 7) n7, if_neg (c := us S i = 3) c3, if_neg (c := us S i = 4) c4, if_pos c5, if_pos c5]
      rw [eb]
      refine m_sign (s := 0) (neg := false) M2 W hd i1 i2 (by omega) (by omega) (by omega) (fun z => hX2 (by rw [er]; exact if_pos z) h2 M2 FMb.rf) (fun z => ?_)
      have er2 : rdn S (bv S) i = dgv (dgn (bv S) (pl S i + 1) (dg S i) (dg S i) 0 0 (decide (ob (bv S) (pl S i) = 45))) := by rw [er]; exact if_neg z
      refine m_alldig (off := 1) (p := pl S i) (n := dg S i + 1) (s := 0) (s' := dg S i) M2 W hd i1 i2 (by omega) (by omega) (by omega) ej (fun _ _ _ => by omega) (fun k _ => by omega) rfl (fun z h' M' f' => hX2 (by rw [er2]; exact congrArg dgv z) h' M' f') (fun acc neg' h' z M' f' j' => ?_)
      rw [Nat.add_comm 1 (dg S i)]
      exact m_saysEnd M' W j' (fun h3 M3 f3 j3 => hQ2 h3 _ (by rw [er2]; exact congrArg dgv z) M3 (f'.trans f3) j3)
  · have eb := by5 (Or.inr c6)
    have er : rdn S (bv S) i = if ¬ ob (bv S) (pl S i + dg S i) = 43 ∧ ¬ ob (bv S) (pl S i + dg S i) = 45 then none else dgv (dgn (bv S) (pl S i) (dg S i) (dg S i) 0 0 (decide (ob (bv S) (pl S i + dg S i) = 45))) := by
      unfold rdn
      rw [if_neg (c := us S i = 8) n8, if_neg (c := us S i = 7) n7, if_neg (c := us S i = 3) c3, if_neg (c := us S i = 4) (by omega), if_neg (c := us S i = 5) (by omega), if_neg (c := us S i = 5) (by omega)]
    rw [dgn_neg (dg S i) 0 0 _ (by omega)] at er
    unfold VX10_says_130
    rw [em1, eb, Nat.add_sub_cancel]
    refine m_alldig (neg := false) (off := 0) (p := pl S i) (n := dg S i + 1) (s := dg S i) (s' := dg S i) M2 W hd i1 i2 (by omega) (by omega) (by omega) ej (fun _ _ _ => by omega) (fun k _ => by omega) rfl (fun z h' M' f' => hX2 ?_ h' M' f') (fun acc neg' h' z M' f' j' => ?_)
    · rw [er]
      split
      · rfl
      · have z' : dgn (bv S) (pl S i) (dg S i) (dg S i) 0 0 false = none := z
        rw [z']; rfl
    · have z' : dgn (bv S) (pl S i) (dg S i) (dg S i) 0 0 false = some (acc, neg') := z
      rw [z'] at er
      rw [Nat.zero_add]
      refine m_sign (s := dg S i) M' W hd i1 i2 (by omega) (by omega) (by omega) (fun w => hX2 (by rw [er]; exact if_pos w) h' M' f') (fun w => ?_)
      exact m_saysEnd M' W j' (fun h3 M3 f3 j3 => hQ2 h3 _ (by rw [er]; exact if_neg w) M3 (f'.trans f3) j3)
  · have er : rdn S (bv S) i = rpk (bv S) (pl S i) (byi S i) (dg S i) := by
      unfold rdn
      rw [if_neg n8, if_pos c7]
    refine m_saysPacked M2 W hd i1 i2 c7 rfl hdg hp ej (fun h' v z M' f' j' => ?_) (fun z h' M' f' => ?_)
    · rw [jki_i]
      exact ⟨Or.inr rfl, hQ2 h' v (er.trans z) M' f' j'⟩
    · rw [jki_i]
      exact ⟨Or.inl rfl, hX2 (er.trans z) h' M' f'⟩
  · have er : rdn S (bv S) i = some (rbn (bv S) (pl S i) (byi S i - 1)) := by
      unfold rdn
      rw [if_pos c8]
    have hb : 1 ≤ byi S i := by
      unfold byi byts
      simp [c8]
      split
      · omega
      · split <;> omega
    exact m_says35 M2 W hd hb hp (fun h' M' f' j' => hQ2 h' _ er M' f' j')
end ModS
