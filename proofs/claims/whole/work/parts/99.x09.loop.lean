/-! THE LAW'S LOOP: both sides hold the same state -/
theorem jqi {K : Int32 → jh → Prop} {X : Nat → jh → Prop} {v : Int32} {h : jh} (q : K v h) : jki K X (.inl (some (.inl v))) h := q
theorem jqx {K : Int32 → jh → Prop} {X : Nat → jh → Prop} {e : Nat} {h : jh} (q : X e h) : jki K X (.inr e) h := q
def LI (h : jh) (S : sg) (x m c : Nat) : Prop := RC h S x m (m + 28) c ∧ RM h S m ∧ WA S ∧ jt h (m + 28) = 22 ∧ jn h (m + 28) = 1
theorem RC.wf {h : jh} {S : sg} {x b1 b2 c : Nat} (C : RC h S x b1 b2 c) : WF S := by
  obtain ⟨_, _, _, _, _, _, C, _⟩ := C
  obtain ⟨_, _, _, _, _, _, _, _, _, _, _, _, _, _, R, _⟩ := C
  obtain ⟨_, _, _, _, _, r6, _⟩ := R
  exact r6
theorem RC.x8 {h : jh} {S : sg} {x b1 b2 c : Nat} (C : RC h S x b1 b2 c) : jt h x = 8 := by
  obtain ⟨_, _, _, _, _, _, C, _⟩ := C
  exact C.1
theorem RC.out {h : jh} {S : sg} {x b1 b2 c a i : Nat} {v : Int64} (C : RC h S x b1 b2 c) : RC (jsL h a i v) S x b1 b2 c := C
theorem RM.out {h : jh} {S : sg} {m i : Nat} {v : Int64} (M : RM h S m) : RM (jsL h (m + 28) i v) S m := by
  obtain ⟨m1, m2, m3, m4, m5, m6, m7, m8, m9⟩ := M
  refine ⟨m1, m2, m3, m4, m5, m6, m7, m8, fun l => ?_⟩
  obtain ⟨l1, l2, l3, l4⟩ := m9 l
  have e : ∀ j k, j ≤ 27 → jL (jsL h (m + 28) i v) (m + j) k = jL h (m + j) k := fun j k hj => by
    show (if m + j = m + 28 ∧ k = i then v else jL h (m + j) k) = _
    rw [if_neg (by omega)]
  refine ⟨l1, l2, l3, fun j j1 j2 j3 => ?_⟩
  obtain ⟨y1, y2, y3, y4⟩ := l4 j j1 j2 j3
  exact ⟨by rw [e 21 _ (by decide)]; exact y1, by rw [e 22 _ (by decide)]; exact y2, fun z => by rw [e 23 _ (by decide)]; exact y3 z, by rw [e 25 _ (by decide)]; exact y4⟩
theorem LI.next {h h1 h2 : jh} {S' : sg} {x m c : Nat} (o : jt h (m + 28) = 22 ∧ jn h (m + 28) = 1) (C1 : RC h1 S' x m (m + 28) c) (F1 : FB m (m + 28) h h1) (M2 : RM h2 S' m) (F2 : FMb m h1 h2) (W' : WA S') : LI h2 S' x m c :=
  ⟨C1.fm F2, M2, W', by rw [F2.2.1]; exact ((F1 (m + 28) (by omega) (Nat.le_refl _)).1).trans o.1, by rw [F2.2.2.1]; exact ((F1 (m + 28) (by omega) (Nat.le_refl _)).2.1).trans o.2⟩
theorem LI.same {h h2 : jh} {S' : sg} {x m c : Nat} (o : jt h (m + 28) = 22 ∧ jn h (m + 28) = 1) (C1 : RC h S' x m (m + 28) c) (M2 : RM h2 S' m) (F2 : FMb m h h2) (W' : WA S') : LI h2 S' x m c :=
  ⟨C1.fm F2, M2, W', by rw [F2.2.1]; exact o.1, by rw [F2.2.2.1]; exact o.2⟩
def lp (c : Nat) : Nat := if 20000 ≤ c then 0 else 60000 - 2 * c
theorem lp_le (c : Nat) : lp c ≤ 60000 := by unfold lp; split <;> omega
theorem lp_lay (S : sg) (c : Nat) : lsl S c + lp (lc S c) ≤ lp c := by
  unfold lsl lc
  by_cases h1 : fwr S (gU S) true = 0 ∧ sF S 4 0 ≤ 20000
  · rw [if_pos h1]
    obtain ⟨h1, h2⟩ := h1
    generalize sF S 4 0 = n at *
    by_cases h3 : c < n
    · rw [if_pos ⟨h1, h2, h3⟩]
      unfold lp newc
      rw [if_neg (show ¬ n ≤ c by omega), if_neg (show ¬ 20000 ≤ c by omega)]
      split <;> omega
    · rw [if_neg (fun q => h3 q.2.2)]
      unfold newc
      rw [if_pos (show n ≤ c by omega)]
      omega
  · rw [if_neg h1, if_neg (fun q => h1 ⟨q.1, q.2.1⟩)]
    omega
theorem shol_k {S : sg} {u : Int32} {k : Nat} (h : shol S u = .inr k) : k = 1 ∨ k = 2 := by
  unfold shol at h
  split at h
  · exact Or.inl (Sum.inr.inj h).symm
  · split at h
    · exact Or.inr (Sum.inr.inj h).symm
    · split at h
      · exact Or.inr (Sum.inr.inj h).symm
      · cases h
theorem ll_lt {L i : Nat} (hL : L ≤ 2560) (hi : i ≤ 2560) : nI L - 5 < nI i ↔ L < i + 5 := by
  rw [Int32.lt_iff_toInt_lt, Int32.toInt_sub, nI_toInt (show L < 2 ^ 31 by omega), nI_toInt (show i < 2 ^ 31 by omega), show (5 : Int32).toInt = 5 from rfl]
  rw [show ((L : Int) - 5).bmod (2 ^ 32) = (L : Int) - 5 by rw [Int.bmod_def]; split <;> omega]
  omega
theorem K7 {m : Nat} {h3 h4 : jh} (o : jt h3 (m + 28) = 22 ∧ jn h3 (m + 28) = 1) (F : FMb m h3 h4) : jt h4 (m + 28) = 22 := by rw [F.2.1]; exact o.1
theorem K8 {m : Nat} {h3 h4 : jh} (o : jt h3 (m + 28) = 22 ∧ jn h3 (m + 28) = 1) (F : FMb m h3 h4) : jn h4 (m + 28) = 1 := by rw [F.2.2.1]; exact o.2
/-- the law's end: it says true -/
def QL : jq := fun r _ => r = .inl (some (.inl 1))
abbrev lvL (g : jg) (x m i : Nat) : List (Nat × jv) := [(0, .inr (.inr (some (jgs g)))), (1, .inr (.inr (some x))), (2, .inr (.inr (some m))), (3, .inr (.inr (some (m + 28)))), (4, .inl (nI i))]
theorem law_case {g : jg} {x m i c r k n : Nat} {h : jh} {S : sg} (hL : jgL g ≤ 2560) (hi : i ≤ 2560) (I : LI h S x m c) (hk : i + 5 ≤ jgL g → 3 * (r + 1) ≤ k) (hn : i + 5 ≤ jgL g → 26 * (r + 1) + lp c ≤ n)
    (IH : ∀ (h' : jh) (S' : sg) (c' k' n' : Nat), LI h' S' x m c' → 3 * r ≤ k' → 26 * r + lp c' ≤ n' → i + 5 ≤ jgL g → jG g mL_law 23 [(0, .inr (.inr (some (jgs g)))), (1, .inr (.inr (some x))), (2, .inr (.inr (some m))), (3, .inr (.inr (some (m + 28)))), (4, .inl (nI i + 5))] [] h' k' n' QL) :
    VL_law_23 g (some x) (some m) (some (m + 28)) (nI i) h k n QL := by
  obtain ⟨C, M, W, o⟩ := I
  have hC := C
  obtain ⟨tr, pl, so, rw', al, ad, Cx, rfl⟩ := C
  have hx8 : jt h x = 8 := Cx.1
  have hm9 : jt h m = 9 := M.t
  have A1 : WS1 S := W.2.1
  have A2 : WS2 S := W.2.2.1
  have wm : WM S := WM_of W.1 A1 A2 W.2.2.2.2.2.1
  have hlp := lp_lay S (jn h al)
  have fm9 : ∀ h', FB m (m + 28) h h' → jt h' m = 9 := fun h' F => ((F m (Nat.le_refl _) (by omega)).1).trans hm9
  unfold VL_law_23
  refine ⟨fun _ => rfl, fun hc => ?_⟩
  have h5 : i + 5 ≤ jgL g := by
    rw [ll_lt hL hi] at hc
    omega
  replace hk := hk h5
  replace hn := hn h5
  have IH' : ∀ (h' : jh) (S' : sg) (c' k' n' : Nat), LI h' S' x m c' → 3 * r ≤ k' → 26 * r + lp c' ≤ n' → jG g mL_law 23 [(0, .inr (.inr (some (jgs g)))), (1, .inr (.inr (some x))), (2, .inr (.inr (some m))), (3, .inr (.inr (some (m + 28)))), (4, .inl (nI i + 5))] [] h' k' n' QL := fun h' S' c' k' n' a b d => IH h' S' c' k' n' a b d h5
  clear IH hc
  have v0 : vp_in (nI i) (jgL g) := nI_in (by omega) (by omega)
  have v1 : vp_in (nI i + 1) (jgL g) := by rw [show nI i + 1 = nI (i + 1) from nI_add i 1]; exact nI_in (by omega) (by omega)
  have v2 : vp_in (nI i + 2) (jgL g) := by rw [show nI i + 2 = nI (i + 2) from nI_add i 2]; exact nI_in (by omega) (by omega)
  have v3 : vp_in (nI i + 3) (jgL g) := by rw [show nI i + 3 = nI (i + 3) from nI_add i 3]; exact nI_in (by omega) (by omega)
  have v4 : vp_in (nI i + 4) (jgL g) := by rw [show nI i + 4 = nI (i + 4) from nI_add i 4]; exact nI_in (by omega) (by omega)
  refine ⟨v0, ?_, ?_, ?_, ?_, ?_, ?_, ?_, ?_, ?_, ?_, ?_, ?_, ?_, ?_, ?_, ?_, ?_⟩
  · intro _
    refine ⟨v1, v2, v3, jsn, hx8, 2, 26, by omega, by omega, ?_⟩
    refine c_item Cx (WS1.wr A1) W.z W.2.2.2.2.1 (fun h1 C1 F1 _ => jqi ?_)
    refine ⟨jsn, fm9 h1 F1, m_item (M.fb F1) W (fun h2 M2 F2 => jqi ?_)⟩
    exact ⟨fun _ => IH' _ _ _ _ _ (LI.next o C1 F1 M2 F2 (WA_item W C1.wf)) (by omega) (by omega), fun q => (q rfl).elim⟩
  · intro _
    refine ⟨v1, v2, v3, v4, jsn, hx8, 3, 19, by omega, by omega, ?_⟩
    refine c_clause Cx (fun h1 C1 F1 _ => jqi ?_)
    refine ⟨jsn, fm9 h1 F1, m_clause (M.fb F1) W (fun h2 M2 F2 => jqi ?_)⟩
    exact ⟨fun _ => IH' _ _ _ _ _ (LI.next o C1 F1 M2 F2 (WA_cla W C1.wf)) (by omega) (by omega), fun q => (q rfl).elim⟩
  · intro _
    refine ⟨jsn, hx8, 1, lsl S (jn h al), by omega, by omega, ?_⟩
    refine c_lay Cx W.wb (WL_of A1) (WP_of A2) (WP2_of W.1 A1 A2) (WU_of A1) (fun h1 C1 F1 _ => jqi ?_)
    refine ⟨jsn, fm9 h1 F1, m_lay (M.fb F1) W (fun h2 M2 F2 => jqi ?_)⟩
    exact ⟨fun _ => IH' _ _ _ _ _ (LI.next o C1 F1 M2 F2 (WA_lay W)) (by omega) (by omega), fun q => (q rfl).elim⟩
  · intro _
    refine ⟨v1, jsn, hx8, ?_⟩
    refine c_place Cx wm (jqi ?_)
    refine ⟨jsn, hm9, m_place M W (fun h2 M2 F2 => jqi ?_)⟩
    exact ⟨fun _ => IH' _ _ _ _ _ (LI.same o hC M2 F2 W) (by omega) (by omega), fun q => (q rfl).elim⟩
  · intro _
    refine ⟨v1, jsn, hx8, ?_⟩
    refine c_size Cx wm (jqi ?_)
    refine ⟨jsn, hm9, m_size M W (fun h2 M2 F2 => jqi ?_)⟩
    exact ⟨fun _ => IH' _ _ _ _ _ (LI.same o hC M2 F2 W) (by omega) (by omega), fun q => (q rfl).elim⟩
  · intro _
    refine ⟨v1, v2, v3, v4, 1, 6, by omega, by omega, ?_⟩
    refine w_subscript hx8 ?_
    refine c_subscript Cx wm W.2.2.2.2.2.2.1 A2.2.1 (fun v hv h1 C1 F1 => jqi ?_) (fun hv h1 C1 F1 => jqx ?_)
    · have F28 := F1 (m + 28) (by omega) (Nat.le_refl _)
      refine ⟨F28.1.trans o.1, F28.2.1.trans o.2, jqi ?_⟩
      obtain ⟨h3, e3⟩ : ∃ z : jh, z = jsL h1 (m + 28) 0 v.toInt64 := ⟨_, rfl⟩
      rw [← e3]
      have C3 := C1.out (a := m + 28) (i := 0) (v := v.toInt64)
      rw [← e3] at C3
      have M3 : RM h3 S m := by rw [e3]; exact (M.fb F1).out
      have o3 : jt h3 (m + 28) = 22 ∧ jn h3 (m + 28) = 1 := by rw [e3]; exact ⟨F28.1.trans o.1, F28.2.1.trans o.2⟩
      have q3 : jL h3 (m + 28) 0 = v.toInt64 := by rw [e3]; exact if_pos ⟨rfl, rfl⟩
      refine ⟨jsn, M3.t, m_subscript M3 W (fun v' hv' h4 M4 F4 t4 => jqi ?_) (fun hv' => by rw [hv] at hv'; cases hv')⟩
      cases Option.some.inj (hv.symm.trans hv')
      have q4 : jL h4 (m + 28) (0 : Int32).toNatClampNeg = v.toInt64 := by
        show jL h4 (m + 28) 0 = _
        rw [(F4.2.2.2.2.2.1 (m + 28) (Or.inr (by omega))).2]; exact q3
      have K := IH' h4 _ _ (k - 1) (n - 6) (LI.same o3 C3 M4 F4 (WA_sub W)) (by omega) (by omega)
      refine ⟨M4.t, m_thrown M4.t t4 (jqi ⟨fun _ => ⟨fun q => (q rfl).elim, fun _ => ⟨jsn, ?_, ?_, fun _ => K, fun q => (q q4).elim⟩⟩, fun q => (q rfl).elim⟩)⟩
      · exact K7 o3 F4
      · exact vp_in0 (K8 o3 F4)
    · refine ⟨rfl, jqi ⟨jsn, fm9 h1 F1, m_subscript (M.fb F1) W (fun v' hv' => by rw [hv] at hv'; cases hv') (fun _ h4 v4' M4 F4 t4 => jqi ?_)⟩⟩
      refine ⟨M4.t, m_thrown M4.t t4 (jqi ⟨fun _ => ⟨fun _ => ?_, fun q => by cases q⟩, fun q => (q rfl).elim⟩)⟩
      exact IH' h4 _ _ (k - 1) (n - 6) (LI.next o C1 F1 M4 F4 (WA_sub W)) (by omega) (by omega)
  · intro _
    refine ⟨v1, fun hz => ?_, fun hz => ?_⟩
    · unfold VL_law_396
      refine ⟨jsn, hx8, c_checks (v := false) Cx (fun h1 C1 F1 _ => jqi ?_)⟩
      refine ⟨v1, fun _ => ⟨jsn, fm9 h1 F1, m_checks (v := false) (M.fb F1) (fun h2 M2 F2 => jqi ?_)⟩, fun q => (q hz).elim⟩
      exact ⟨fun _ => IH' _ _ _ _ _ (LI.next o C1 F1 M2 F2 (WA_chk W)) (by omega) (by omega), fun q => (q rfl).elim⟩
    · unfold VL_law_396
      refine ⟨jsn, hx8, c_checks (v := true) Cx (fun h1 C1 F1 _ => jqi ?_)⟩
      refine ⟨v1, fun q => (hz q).elim, fun _ => ⟨jsn, fm9 h1 F1, m_checks (v := true) (M.fb F1) (fun h2 M2 F2 => jqi ?_)⟩⟩
      exact ⟨fun _ => IH' _ _ _ _ _ (LI.next o C1 F1 M2 F2 (WA_chk W)) (by omega) (by omega), fun q => (q rfl).elim⟩
  · intro _
    refine ⟨v1, v2, jsn, hx8, ?_⟩
    refine c_depending Cx (fun h1 C1 F1 _ => jqi ?_)
    refine ⟨jsn, fm9 h1 F1, m_depending (M.fb F1) W (fun h2 M2 F2 => jqi ?_)⟩
    exact ⟨fun _ => IH' _ _ _ _ _ (LI.next o C1 F1 M2 F2 (WA_dep W C1.wf)) (by omega) (by omega), fun q => (q rfl).elim⟩
  · intro _
    refine ⟨v1, v2, jsn, hx8, ?_⟩
    refine c_redefines Cx (fun h1 C1 F1 _ => jqi ?_)
    refine ⟨jsn, fm9 h1 F1, m_redefines (M.fb F1) W (fun h2 M2 F2 => jqi ?_)⟩
    exact ⟨fun _ => IH' _ _ _ _ _ (LI.next o C1 F1 M2 F2 (WA_red W C1.wf)) (by omega) (by omega), fun q => (q rfl).elim⟩
  · intro _
    refine ⟨v1, v2, v3, jsn, hx8, ?_⟩
    refine c_refer Cx wm (jqi ?_)
    refine ⟨jsn, hm9, m_refer M W (fun h2 M2 F2 => jqi ?_)⟩
    exact ⟨fun _ => IH' _ _ _ _ _ (LI.same o hC M2 F2 W) (by omega) (by omega), fun q => (q rfl).elim⟩
  · intro _
    refine ⟨v1, jsn, hx8, ?_⟩
    refine c_slack Cx wm (jqi ?_)
    refine ⟨jsn, hm9, m_slack M W (fun h2 M2 F2 => jqi ?_)⟩
    exact ⟨fun _ => IH' _ _ _ _ _ (LI.same o hC M2 F2 W) (by omega) (by omega), fun q => (q rfl).elim⟩
  · intro _
    refine ⟨v1, v2, jsn, hx8, ?_⟩
    refine c_external Cx (fun h1 C1 F1 _ => jqi ?_)
    refine ⟨jsn, fm9 h1 F1, m_external (M.fb F1) W (fun h2 M2 F2 => jqi ?_)⟩
    exact ⟨fun _ => IH' _ _ _ _ _ (LI.next o C1 F1 M2 F2 (WA_ext W C1.wf)) (by omega) (by omega), fun q => (q rfl).elim⟩
  · intro _
    refine ⟨v1, 1, 6, by omega, by omega, ?_⟩
    refine w_at hx8 ?_
    refine c_at Cx wm W.2.2.2.2.2.2.2 (fun v hv => jqi ?_) (fun hv h1 C1 F1 => jqx ?_)
    · refine ⟨o.1, o.2, jqi ?_⟩
      obtain ⟨h3, e3⟩ : ∃ z : jh, z = jsL h (m + 28) 0 v.toInt64 := ⟨_, rfl⟩
      rw [← e3]
      have C3 : RC h3 S x m (m + 28) (jn h al) := by rw [e3]; exact hC.out
      have M3 : RM h3 S m := by rw [e3]; exact M.out
      have o3 : jt h3 (m + 28) = 22 ∧ jn h3 (m + 28) = 1 := by rw [e3]; exact o
      have q3 : jL h3 (m + 28) 0 = v.toInt64 := by rw [e3]; exact if_pos ⟨rfl, rfl⟩
      refine ⟨jsn, M3.t, m_at M3 W (fun h4 M4 F4 v' hv' t4 => jqi ?_) (fun hv' => by rw [hv] at hv'; cases hv')⟩
      cases Option.some.inj (hv.symm.trans hv')
      have q4 : jL h4 (m + 28) (0 : Int32).toNatClampNeg = v.toInt64 := by
        show jL h4 (m + 28) 0 = _
        rw [(F4.2.2.2.2.2.1 (m + 28) (Or.inr (by omega))).2]; exact q3
      have K := IH' h4 _ _ (k - 1) (n - 6) (LI.same o3 C3 M4 F4 W) (by omega) (by omega)
      refine ⟨M4.t, m_thrown M4.t t4 (jqi ⟨fun _ => ⟨fun q => (q rfl).elim, fun _ => ⟨jsn, ?_, ?_, fun _ => K, fun q => (q q4).elim⟩⟩, fun q => (q rfl).elim⟩)⟩
      · exact K7 o3 F4
      · exact vp_in0 (K8 o3 F4)
    · refine ⟨rfl, jqi ⟨jsn, fm9 h1 F1, m_at (M.fb F1) W (fun _ _ _ v' hv' => by rw [hv] at hv'; cases hv') (fun _ h4 v4' M4 F4 t4 => jqi ?_)⟩⟩
      refine ⟨M4.t, m_thrown M4.t t4 (jqi ⟨fun _ => ⟨fun _ => ?_, fun q => by cases q⟩, fun q => (q rfl).elim⟩)⟩
      exact IH' h4 _ _ (k - 1) (n - 6) (LI.next o C1 F1 M4 F4 W) (by omega) (by omega)
  · intro _
    refine ⟨v1, v2, jsn, hx8, ?_⟩
    refine c_octet Cx wm (fun h1 C1 F1 => jqi ?_)
    refine ⟨jsn, fm9 h1 F1, m_octet (M.fb F1) W (fun h2 M2 F2 => jqi ?_)⟩
    exact ⟨fun _ => IH' _ _ _ _ _ (LI.next o C1 F1 M2 F2 (WA_oct W)) (by omega) (by omega), fun q => (q rfl).elim⟩
  · intro _
    refine ⟨v1, 2, 12, by omega, by omega, ?_⟩
    refine w_holds hx8 ?_
    refine c_holds Cx wm (WH_of W.1 A1 A2 W.2.2.2.2.2.1) (fun v hv => jqi ?_) (fun j hv h1 C1 F1 => jqx ?_)
    · refine ⟨o.1, o.2, jqi ?_⟩
      obtain ⟨h3, e3⟩ : ∃ z : jh, z = jsL h (m + 28) 0 (if jb v = 0 then 0 else 1) := ⟨_, rfl⟩
      rw [← e3]
      have C3 : RC h3 S x m (m + 28) (jn h al) := by rw [e3]; exact hC.out
      have M3 : RM h3 S m := by rw [e3]; exact M.out
      have o3 : jt h3 (m + 28) = 22 ∧ jn h3 (m + 28) = 1 := by rw [e3]; exact o
      have q3 : jL h3 (m + 28) 0 = (if jb v = 0 then 0 else 1) := by rw [e3]; exact if_pos ⟨rfl, rfl⟩
      refine ⟨jsn, M3.t, m_holds M3 W (fun v' hv' h4 M4 F4 t4 => jqi ?_) (fun j hv' => by rw [hv] at hv'; cases hv')⟩
      cases Sum.inl.inj (hv.symm.trans hv')
      have q4 : jL h4 (m + 28) (0 : Int32).toNatClampNeg = (if jb v = 0 then 0 else 1) := by
        show jL h4 (m + 28) 0 = _
        rw [(F4.2.2.2.2.2.1 (m + 28) (Or.inr (by omega))).2]; exact q3
      have K := IH' h4 _ _ (k - 2) (n - 12) (LI.same o3 C3 M4 F4 W) (by omega) (by omega)
      refine ⟨M4.t, m_thrown M4.t t4 (jqi ⟨fun _ => ⟨fun q => (q rfl).elim, fun _ => ⟨jsn, ?_, ?_, fun z => ⟨fun _ => K, fun q => (q ?_).elim⟩, fun z => ⟨fun _ => K, fun q => (q ?_).elim⟩⟩⟩, fun q => (q rfl).elim⟩)⟩
      · exact K7 o3 F4
      · exact vp_in0 (K8 o3 F4)
      · exact q4.trans (if_pos z)
      · exact q4.trans (if_neg z)
    · have K := fun (h4 : jh) (M4 : RM h4 S m) (F4 : FMb m h1 h4) => IH' h4 _ _ (k - 2) (n - 12) (LI.next o C1 F1 M4 F4 W) (by omega) (by omega)
      rcases shol_k hv with rfl | rfl
      · refine Or.inl ⟨rfl, jqi ⟨jsn, fm9 h1 F1, m_holds (M.fb F1) W (fun v' hv' => by rw [hv] at hv'; cases hv') (fun j hv' h4 M4 F4 t4 => jqi ?_)⟩⟩
        cases Sum.inr.inj (hv.symm.trans hv')
        exact ⟨M4.t, m_thrown M4.t t4 (jqi ⟨fun _ => ⟨fun _ => K h4 M4 F4, fun q => by cases q⟩, fun q => (q rfl).elim⟩)⟩
      · refine Or.inr ⟨rfl, jqi ⟨jsn, fm9 h1 F1, m_holds (M.fb F1) W (fun v' hv' => by rw [hv] at hv'; cases hv') (fun j hv' h4 M4 F4 t4 => jqi ?_)⟩⟩
        cases Sum.inr.inj (hv.symm.trans hv')
        exact ⟨M4.t, m_thrown M4.t t4 (jqi ⟨fun _ => ⟨fun _ => K h4 M4 F4, fun q => by cases q⟩, fun q => (q rfl).elim⟩)⟩
  · intro _
    refine ⟨v1, jsn, hx8, ?_⟩
    refine c_count Cx wm (WS1.wr A1) (jqi ?_)
    refine ⟨jsn, hm9, m_count M W (fun h2 M2 F2 => jqi ?_)⟩
    exact ⟨fun _ => IH' _ _ _ _ _ (LI.same o hC M2 F2 W) (by omega) (by omega), fun q => (q rfl).elim⟩
  · intro _
    exact IH' h S _ k n ⟨hC, M, W, o⟩ (by omega) (by omega)
theorem law_loop {g : jg} {x m : Nat} (hL : jgL g ≤ 2560) : ∀ (r i : Nat) (h : jh) (S : sg) (c k n : Nat), i ≤ 2560 → jgL g < i + 5 * r + 5 → LI h S x m c → 3 * r ≤ k → 26 * r + lp c ≤ n →
    jG g mL_law 23 [(0, .inr (.inr (some (jgs g)))), (1, .inr (.inr (some x))), (2, .inr (.inr (some m))), (3, .inr (.inr (some (m + 28)))), (4, .inl (nI i))] [] h k n QL := by
  intro r
  induction r with
  | zero =>
    intro i h S c k n hi hr I hk hn
    exact vL_law_23 (law_case (r := 0) hL hi I (fun q => by omega) (fun q => by omega) (fun _ _ _ _ _ _ _ _ q => by omega))
  | succ r ih =>
    intro i h S c k n hi hr I hk hn
    refine vL_law_23 (law_case (r := r) hL hi I (fun _ => hk) (fun _ => hn) (fun h' S' c' k' n' I' hk' hn' h5 => ?_))
    rw [show nI i + 5 = nI (i + 5) from nI_add i 5]
    exact ih (i + 5) h' S' c' k' n' (by omega) (by omega) I' hk' hn'
