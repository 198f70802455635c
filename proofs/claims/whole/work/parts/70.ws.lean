/-! what follows from it; states that differ in nothing that the layout reads -/
section Ws4
variable {S S' : sg}
theorem gus_U {U : Nat → Nat} (hb : ∀ i, ¬ sy S i = 0 → isU (byi S i)) (h : ∀ i, isU (U i)) (i : Nat) : ∀ j, isU (gus S i U j) := by
  have mx : ∀ a b, isU a → isU b → isU (max a b) := fun a b ha hb => by
    rcases Nat.le_total a b with q | q
    · rw [Nat.max_eq_right q]; exact hb
    · rw [Nat.max_eq_left q]; exact ha
  intro j
  unfold gus
  by_cases c : j = cpa S i ∧ ¬ cpa S i = 0
  · rw [if_pos c]
    refine mx _ _ (h j) ?_
    by_cases d : sy S i = 0
    · rw [if_pos d]; exact h i
    · rw [if_neg d]; exact hb i d
  · rw [if_neg c]
    by_cases d : j = i ∧ ¬ sy S i = 0
    · rw [if_pos d]; exact hb i d.2
    · rw [if_neg d]; exact h j
theorem gU_U (W : WS2 S) : ∀ i, isU (gU S i) := by
  have hb : ∀ i, ¬ sy S i = 0 → isU (byi S i) := fun i h => by
    have := W.2.2.2.1 i h
    unfold byi byts isU
    rw [if_neg (by omega), if_neg (by omega), if_neg (by omega), if_neg (by omega)]
    by_cases c : us S i = 8
    · rw [if_pos c]
      split
      · omega
      · split <;> omega
    · rw [if_neg c]
      by_cases d : us S i = 9 ∨ us S i = 11
      · rw [if_pos d]; omega
      · rw [if_neg d, if_pos (by omega)]; omega
  have go : ∀ n U, (∀ i, isU (U i)) → ∀ i, isU (guF S n U i) := by
    intro n
    induction n with
    | zero => intro U h; exact h
    | succ n ih => intro U h; exact ih _ (gus_U hb h _)
  exact go _ _ (fun _ => Or.inl rfl)
theorem WS1.lv1 (A : WS1 S) {i : Nat} (h1 : 1 ≤ i) (h2 : i ≤ sN S) : 1 ≤ lv S i := by
  have := (A i h1 h2).1
  omega
theorem WB_of (F : WF S) (A : WS1 S) (B : WS2 S) : WB S (gU S) := by
  obtain ⟨c1, c2, c3, c4, c5, c6, c7, c8, c9, c10⟩ := id B
  refine ⟨F.2.1, fun i h1 h2 hl hc => ?_, fun i h1 h2 ho => ?_, c2, F.2.2.2.2.2.2.1, F.2.2.2.2.1, fun i h1 h2 hl => ?_, gU_U B, fun i ht => ?_, fun i h1 h2 => ?_⟩
  · have l50 : lv S i < 50 := by
      by_cases q : lv S i < 50
      · exact q
      · exact absurd (cpa_n q) hc
    have ec : cpa S i = pa S i := cpa_p l50
    obtain ⟨a1, a2, a3, a4, -⟩ := A i h1 h2
    have ll := A.lv1 h1 h2
    have n1 : ¬ lv S i = 1 := fun q => hc (by rw [ec]; exact a3 (Or.inl q))
    obtain ⟨d1, d2, d3, d4, d5, d6, d7, d8⟩ := a4 (by omega)
    rw [ec]
    exact ⟨lies_mk (by omega), d2, d5⟩
  · obtain ⟨d1, d2, d3, d4, d5, d6, d7, d8, d9, d10, d11, d12⟩ := c6 i ho
    exact ⟨d3, lies_mk (by omega), d6, d7, lies_mk (by omega), d8⟩
  · obtain ⟨n1, n2⟩ := of_decide_eq_true hl
    obtain ⟨m1, m2⟩ := fnm_min (S := S) h1 h2 rfl
    have hn := fnm_na m1
    have k1 := c8 i n1
    have k2 := c8 (fnm S (na S i)) (by rw [hn]; exact n1)
    exact ⟨by omega, by omega, k2.2.2.1, k1.2.2.1⟩
  · obtain ⟨d1, d2, d3, d4, d5, d6⟩ := c1 i ht
    exact ⟨d6, d3, d4⟩
  · obtain ⟨a1, a2, a3, a4, -⟩ := A i h1 h2
    have ll := A.lv1 h1 h2
    constructor
    · intro q
      by_cases l50 : lv S i < 50
      · rw [cpa_p l50] at q
        by_cases e : lv S i = 1
        · exact Or.inl e
        · have := (a4 (by omega)).1
          omega
      · right; omega
    · intro q
      by_cases l50 : lv S i < 50
      · rw [cpa_p l50]; exact a3 (by omega)
      · exact cpa_n l50
theorem WD_of (F : WF S) (A : WS1 S) (B : WS2 S) : WD S := by
  have W := WB_of F A B
  refine ⟨fun i h1 h2 hl hc => ?_, B.2.2.1⟩
  have l50 : lv S i < 50 := by
    by_cases q : lv S i < 50
    · exact q
    · exact absurd (cpa_n q) hc
  obtain ⟨a1, a2, a3, a4, -⟩ := A i h1 h2
  have ll := A.lv1 h1 h2
  rw [cpa_p l50] at hc ⊢
  have n1 : ¬ lv S i = 1 := fun q => hc (a3 (Or.inl q))
  exact (a4 (by omega)).2.2.2.2.2.1
theorem WL_of (A : WS1 S) : WL S := fun i h1 h2 => (A i h1 h2).1
theorem WP_of (B : WS2 S) : WP S := fun i h1 h2 h => by
  obtain ⟨d1, d2, d3, d4, d5, d6, d7, d8, d9, d10, d11⟩ := (B.2.2.2.2.2.2.2.2.1 i).2 h
  exact ⟨d3, lies_mk (by omega), fun _ => lies_mk (by omega)⟩
/-- an item's record is the end of its chain -/
theorem onc_rc (F : WF S) (A : WS1 S) (B : WS2 S) : ∀ i, 1 ≤ i → i ≤ sN S → lies S i = true → onc S i (rc S i) = true ∧ cpa S (rc S i) = 0 := by
  have W := WB_of F A B
  have D := WD_of F A B
  intro i
  induction i using Nat.strongRecOn with
  | _ i ih =>
    intro h1 h2 hl
    have ll := lies_of hl
    by_cases hc : cpa S i = 0
    · have := (W.c0 h1 h2).mp hc
      have e : rc S i = i := (A i h1 h2).2.2.2.2.2.1 (by omega)
      rw [e]
      exact ⟨onc_self W.p (by omega), hc⟩
    · have p := W.p i (by omega)
      have q := ih _ p (by omega) (by omega) (W.ch h1 h2 hl hc).1
      rw [D.1 i h1 h2 hl hc] at q
      exact ⟨onc_up W.p (by omega) q.1, q.2⟩
theorem WP2_of (F : WF S) (A : WS1 S) (B : WS2 S) : WP2 S := fun i h1 h2 h => by
  obtain ⟨d1, d2, d3, d4, d5, d6, d7, d8, d9, d10, d11⟩ := (B.2.2.2.2.2.2.2.2.1 i).2 h
  refine ⟨d5, d11, rc S i, ?_, ?_⟩
  · have := (onc_rc F A B (rn S i) (by omega) (by omega) (lies_mk (by omega))).1
    rw [d9] at this; exact this
  · have := (onc_rc F A B (rm S i) (by omega) d6 (lies_mk (by omega))).1
    rw [d10] at this; exact this
theorem WU_of (A : WS1 S) : WU S := fun i h1 h2 u1 u2 => by
  have := of_decide_eq_true (A i h1 h2).2.1
  omega
/-- nothing that the layout reads is different -/
def eqv (S S' : sg) : Prop := (∀ a, ¬ a = 9 → ¬ (17 ≤ a ∧ a ≤ 20) → a ≤ 22 → S'.1 a = S.1 a) ∧ ∀ k, k ≤ 20 → S'.2 k = S.2 k
theorem eqv.en (h : eqv S S') : sN S' = sN S := congrFun (h.1 0 (by decide) (by decide) (by decide)) 0
theorem eqv.elv (h : eqv S S') : lv S' = lv S := h.1 1 (by decide) (by decide) (by decide)
theorem eqv.eus (h : eqv S S') : us S' = us S := h.1 2 (by decide) (by decide) (by decide)
theorem eqv.edg (h : eqv S S') : dg S' = dg S := h.1 3 (by decide) (by decide) (by decide)
theorem eqv.epa (h : eqv S S') : pa S' = pa S := h.1 4 (by decide) (by decide) (by decide)
theorem eqv.erc (h : eqv S S') : rc S' = rc S := h.1 5 (by decide) (by decide) (by decide)
theorem eqv.etb (h : eqv S S') : tb S' = tb S := h.1 6 (by decide) (by decide) (by decide)
theorem eqv.emo (h : eqv S S') : mo S' = mo S := h.1 8 (by decide) (by decide) (by decide)
theorem eqv.esy (h : eqv S S') : sy S' = sy S := h.1 10 (by decide) (by decide) (by decide)
theorem eqv.erg (h : eqv S S') : rg S' = rg S := h.1 12 (by decide) (by decide) (by decide)
theorem eqv.ern (h : eqv S S') : rn S' = rn S := h.1 13 (by decide) (by decide) (by decide)
theorem eqv.erm (h : eqv S S') : rm S' = rm S := h.1 14 (by decide) (by decide) (by decide)
theorem eqv.eot (h : eqv S S') : ot S' = ot S := h.1 15 (by decide) (by decide) (by decide)
theorem eqv.ena (h : eqv S S') : na S' = na S := h.1 16 (by decide) (by decide) (by decide)
theorem eqv.elb (h : eqv S S') : lb S' = lb S := h.1 21 (by decide) (by decide) (by decide)
theorem eqv.evl (h : eqv S S') : vl S' = vl S := h.2 0 (by decide)
theorem eqv.ecpa (h : eqv S S') : cpa S' = cpa S := by
  funext i
  show (if _ then _ else _) = if _ then _ else _
  rw [h.elv, h.epa]
theorem eqv.elies (h : eqv S S') : lies S' = lies S := by
  funext i
  show (_ || _) = (_ || _)
  rw [h.elv]
theorem eqv.ebyi (h : eqv S S') : byi S' = byi S := by
  funext i
  show byts _ _ = byts _ _
  rw [h.eus, h.edg]
theorem eqv.etabs (h : eqv S S') : tabs S' = tabs S := by
  funext i
  show chn _ _ _ = chn _ _ _
  rw [h.ecpa, h.etb]
theorem eqv.ebel (h : eqv S S') : bel S' = bel S := by
  funext i j
  show chk _ _ _ = chk _ _ _
  rw [h.ecpa]
theorem eqv.easide (h : eqv S S') : aside S' = aside S := by
  funext i
  show chk _ _ _ = chk _ _ _
  rw [h.ecpa, h.eot]
theorem eqv.efnm (h : eqv S S') : fnm S' = fnm S := by
  funext v
  show fstU _ _ _ = fstU _ _ _
  rw [h.ena, h.en]
theorem eqv.elte (h : eqv S S') : lte S' = lte S := by
  funext i
  show decide _ = decide _
  rw [h.ena, h.efnm]
theorem eqv.elent (h : eqv S S') : lent S' = lent S := by
  funext i
  show chk _ _ _ = chk _ _ _
  rw [h.ecpa, h.eot, h.elte]
theorem eqv.eopn (h : eqv S S') : opn S' = opn S := by
  funext i
  exact opn_eq (n := i) (fun j _ _ => by rw [h.elies]) i (Nat.le_refl _)
theorem eqv.egU (h : eqv S S') : gU S' = gU S := by
  have gs : ∀ i U, gus S' i U = gus S i U := fun i U => by
    funext j
    show (if _ then _ else _) = if _ then _ else _
    rw [h.ecpa, h.esy, h.ebyi]
  have go : ∀ n U, guF S' n U = guF S n U := by
    intro n
    induction n with
    | zero => intro U; rfl
    | succ n ih =>
      intro U
      show guF S' n (gus S' (n + 1) U) = guF S n (gus S (n + 1) U)
      rw [gs, ih]
  show guF _ _ _ = guF _ _ _
  rw [h.en, go]
theorem eqv.efin (h : eqv S S') (U : Nat → Nat) (x : Nat) (L : lm) : fin S' U x L = fin S U x L := by
  have e : exf S' U L x = exf S U L x := by
    show (if _ then _ else _) = if _ then _ else _
    rw [h.etb, h.emo]
  funext a j
  show (if _ then _ else _) = if _ then _ else _
  rw [h.etb, h.ecpa, h.eot, e]
theorem eqv.efup (h : eqv S S') (U : Nat → Nat) (o last : Nat) (L : lm) : fup S' U o last L = fup S U o last L := by
  have go : ∀ f x L, fupF S' U last f x L = fupF S U last f x L := by
    intro f
    induction f with
    | zero => intro x L; rfl
    | succ f ih =>
      intro x L
      show (if _ then _ else _) = if _ then _ else _
      rw [h.ecpa, h.efin, ih]
  exact go _ _ _
theorem eqv.ebeg (h : eqv S S') (U : Nat → Nat) (b : Bool) (i : Nat) (L : lm) : beg S' U b i L = beg S U b i L := by
  have e1 : bhd S' L i = bhd S L i := by
    show (if _ then _ else _) = if _ then _ else _
    rw [h.eot, h.ecpa, h.elte, h.efnm, h.ena]
  have e2 : alg S' U i = alg S U i := by
    show (if _ then _ else _) = if _ then _ else _
    rw [h.esy, h.etb]
  have e3 : plc S' U b L i = plc S U b L i := by
    show (if _ then _ else _) = if _ then _ else _
    rw [h.eot, h.ecpa, e1, e2]
  funext a j
  show (if _ then _ else _) = if _ then _ else _
  rw [e1, e3, h.ebyi]
theorem eqv.emst (h : eqv S S') (U : Nat → Nat) (b : Bool) : ∀ i, mst S' U b i = mst S U b i := by
  intro i
  induction i with
  | zero => rfl
  | succ i ih => rw [mst_succ, mst_succ, h.elies, h.ebeg, h.efup, h.eopn, h.ecpa, ih]
theorem eqv.emfin (h : eqv S S') (U : Nat → Nat) (b : Bool) : mfin S' U b = mfin S U b := by
  show fup _ _ _ _ _ = fup _ _ _ _ _
  rw [h.efup, h.eopn, h.en, h.emst]
theorem eqv.esF (h : eqv S S') : sF S' = sF S := by
  show mfin _ _ _ = mfin _ _ _
  rw [h.egU, h.emfin]
theorem rall_c {f f' : Nat → Bool} (h : ∀ i, f i = f' i) : ∀ n lo, rall f lo n = rall f' lo n := by
  have : f = f' := funext h
  rw [this]; intro n lo; rfl
theorem eqv.efwr (h : eqv S S') : fwr S' (gU S') true = fwr S (gU S) true := by
  have e1 : lst S' = lst S := by
    funext i
    show rall _ _ _ = rall _ _ _
    rw [h.en]
    refine rall_c (fun k => ?_) _ _
    show decide _ = decide _
    rw [h.erc, h.elies, h.ebel]
  have e2 : rpt S' = rpt S := by
    funext a c
    have e3 : rptf S' c = rptf S c := by
      funext k
      show decide _ = decide _
      rw [h.ebel, h.etabs]
    show decide _ = decide _
    rw [h.easide, e3, h.en]
  have e4 : ∀ L, xtn S' L = xtn S L := fun L => by
    funext i
    show (if _ then _ else _) = if _ then _ else _
    rw [h.etb, h.emo]
  have e5 : ∀ L U i, rgt S' U true L i = rgt S U true L i := fun L U i => by
    have e6 : alg S' U i = alg S U i := by
      show (if _ then _ else _) = if _ then _ else _
      rw [h.esy, h.etb]
    show (if _ then _ else if _ then _ else _) = if _ then _ else if _ then _ else _
    rw [h.elv, h.erg, e2, h.ern, h.erm, h.eus, h.elb, h.etb, e1, h.eot, e4, h.ena, h.efnm, e6]
  show fstU _ _ _ = fstU _ _ _
  rw [h.en, h.egU, h.emfin]
  congr 1
  funext i
  rw [e5]
theorem eqv.emvf (h : eqv S S') : mvf S' = mvf S := by
  have go1 : ∀ t f p M, mvcF S' t f p M = mvcF S t f p M := by
    intro t f
    induction f with
    | zero => intro p M; rfl
    | succ f ih =>
      intro p M
      show (if _ then _ else _) = if _ then _ else _
      rw [h.eot, h.ecpa, ih]
  have go2 : ∀ t M, mvs S' t M = mvs S t M := fun t M => by
    show (if _ then _ else _) = if _ then _ else _
    rw [h.etb, go1]
  have go3 : ∀ n lo M, mvU S' lo n M = mvU S lo n M := by
    intro n
    induction n with
    | zero => intro lo M; rfl
    | succ n ih =>
      intro lo M
      show mvU S' (lo + 1) n (mvs S' lo M) = mvU S (lo + 1) n (mvs S lo M)
      rw [go2, ih]
  show mvU _ _ _ _ = mvU _ _ _ _
  rw [h.en, go3]
end Ws4
