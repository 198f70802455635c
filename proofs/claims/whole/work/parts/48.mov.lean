/-! ends that move with a table whose number depends -/
/-- the end of the last one below another is that one's end -/
def IN2 (S : sg) (U : Nat → Nat) (i x : Nat) (L : lm) : Prop := ∀ c, 1 ≤ c → c ≤ i → lies S c = true → onc S x c = false → ¬ cpa S c = 0 → ot S c = 0 → (∀ d, c < d → d ≤ i → lies S d = true → cpa S d = cpa S c → ot S d = 0 → onc S x d = true) → L 1 (cpa S c) = L 0 c + exf S U L c
section Mov1
variable {S : sg} {U : Nat → Nat} {L : lm} {b : Bool}
theorem IN2.skip {i x : Nat} (I : IN2 S U i x L) (hl : lies S (i + 1) = false) : IN2 S U (i + 1) x L := by
  intro c h1 h2 h3 h4 h5 h6 h7
  have : ¬ c = i + 1 := fun e => by rw [e, hl] at h3; cases h3
  exact I c h1 (by omega) h3 h4 h5 h6 (fun d a1 a2 => h7 d a1 (by omega))
theorem IN2.cl (W : WB S U) {i x : Nat} (V : INV S U i x L) (I : IN2 S U i x L) (hx : 0 < x) : IN2 S U i (cpa S x) (fin S U x L) := by
  intro c h1 h2 h3 h4 h5 h6 h7
  obtain ⟨c1, c2, c3, c4, c5, c6, c7, c8, c9, c10⟩ := V
  have hs := onc_self W.p hx
  have px := W.p x hx
  have ex : ∀ j, (j = x ∨ onc S x j = false) → exf S U (fin S U x L) j = exf S U L j := fun j hj => by
    refine (exf_same (fin_0 _ _) ?_).1
    rw [fin_1, if_neg]
    intro q
    rcases hj with e | e
    · omega
    · rw [q.1, onc_par W.p hs q.2.1] at e; cases e
  by_cases e : c = x
  · rw [e] at h5 h6 ⊢
    rw [fin_0, fin_1, if_pos ⟨rfl, h5, h6⟩, ex x (Or.inl rfl)]
  · have nx : onc S x c = false := by
      cases hq : onc S x c with
      | false => rfl
      | true =>
        rcases onc_or W.p hq with q | q
        · exact absurd q e
        · rw [q] at h4; cases h4
    rw [fin_0, ex c (Or.inr nx), fin_1, if_neg]
    · exact I c h1 h2 h3 nx h5 h6 (fun d a1 a2 a3 a4 a5 => onc_up W.p hx (h7 d a1 a2 a3 a4 a5))
    · intro q
      by_cases hcx : c < x
      · have := onc_le W.p _ _ (h7 x hcx c9 (c10 x hs) q.1.symm q.2.2)
        omega
      · have hb : onc S (cpa S c) x = true := c5 x c hs (by omega) h2 h3
        have := onc_le W.p _ _ hb
        omega
theorem IN2.bg (W : WB S U) {i : Nat} (I : IN2 S U i (cpa S (i + 1)) L) : IN2 S U (i + 1) (i + 1) (beg S U b (i + 1) L) := by
  intro c h1 h2 h3 h4 h5 h6 h7
  have hne := onc_no W.p (by omega) h4
  have pc := W.p c (by omega)
  have z0 : ∀ j, j ≤ i → beg S U b (i + 1) L 0 j = L 0 j := fun j h => by rw [beg_0, if_neg (by omega)]
  have z1 : ∀ j, j ≤ i → beg S U b (i + 1) L 1 j = L 1 j := fun j h => by rw [beg_1, if_neg (by omega)]
  rw [z0 c (by omega), z1 _ (by omega), (exf_same (z0 c (by omega)) (z1 c (by omega))).1]
  refine I c h1 (by omega) h3 hne.2 h5 h6 (fun d a1 a2 a3 a4 a5 => ?_)
  rcases onc_or W.p (h7 d a1 (by omega) a3 a4 a5) with q | q
  · omega
  · exact q
theorem IN2.fp (W : WB S U) {i last : Nat} (hi : i ≤ sN S) : ∀ x L, INV S U i x L → IN2 S U i x L → (last = 0 ∨ onc S x last = true) → IN2 S U i last (fup S U x last L) := by
  intro x
  induction x using Nat.strongRecOn with
  | _ x ih =>
    intro L I J h
    by_cases h0 : x = 0 ∨ x = last
    · rw [fup_0 h0]
      by_cases e : x = last
      · rw [← e]; exact J
      · have e0 : x = 0 := by omega
        rcases h with h | h
        · omega
        · rw [e0] at h; cases h
    · rw [fup_step W.p h0]
      refine ih _ (W.p x (by omega)) _ (I.cl W (by omega) hi) (J.cl W I (by omega)) ?_
      rcases h with h | h
      · exact Or.inl h
      · rcases onc_or W.p h with q | q
        · omega
        · exact Or.inr q
theorem IN2.ms (W : WB S U) : ∀ i, i ≤ sN S → IN2 S U i (opn S i) (mst S U b i) := by
  intro i
  induction i with
  | zero => intro _ c a1 a2; omega
  | succ i ih =>
    intro hi
    have I := INV.ms (b := b) W i (by omega)
    have J := ih (by omega)
    have e2 : opn S (i + 1) = if lies S (i + 1) = true then i + 1 else opn S i := rfl
    rw [mst_succ, e2]
    cases hl : lies S (i + 1) with
    | false => exact J.skip hl
    | true =>
      rw [if_pos rfl, if_pos rfl]
      refine IN2.bg W (J.fp W (by omega) _ _ I ?_)
      by_cases hc : cpa S (i + 1) = 0
      · exact Or.inl hc
      · exact Or.inr (W.ch (by omega) hi hl hc).2.2
theorem IN2.mf (W : WB S U) : IN2 S U (sN S) 0 (mfin S U b) := IN2.fp W (Nat.le_refl _) _ _ (INV.ms W _ (Nat.le_refl _)) (IN2.ms W _ (Nat.le_refl _)) (Or.inl rfl)
/-- p's end is marked as one that moves with what is at x -/
def mkF (S : sg) : Nat → Nat → Nat → Bool
  | 0, _, _ => false
  | f + 1, x, p => if ¬ ot S x = 0 ∨ cpa S x = 0 then false else decide (cpa S x = p) || mkF S f (cpa S x) p
def mk (S : sg) (x p : Nat) : Bool := mkF S (x + 1) x p
theorem mkF_more (hp : ∀ i, 0 < i → cpa S i < i) : ∀ f m x p, 0 < x → x < f → x < m → mkF S f x p = mkF S m x p := by
  intro f
  induction f with
  | zero => intro m x p _ h; omega
  | succ f ih =>
    intro m x p h0 h1 h2
    cases m with
    | zero => omega
    | succ m =>
      have := hp x h0
      by_cases q : ¬ ot S x = 0 ∨ cpa S x = 0
      · simp only [mkF, if_pos q]
      · simp only [mkF, if_neg q]
        rw [ih m (cpa S x) p (by omega) (by omega) (by omega)]
theorem mk_step (hp : ∀ i, 0 < i → cpa S i < i) {x p : Nat} (hx : 0 < x) : mk S x p = if ¬ ot S x = 0 ∨ cpa S x = 0 then false else decide (cpa S x = p) || mk S (cpa S x) p := by
  have := hp x hx
  unfold mk
  by_cases q : ¬ ot S x = 0 ∨ cpa S x = 0
  · simp only [mkF, if_pos q]
  · have e : mkF S (x + 1) x p = (decide (cpa S x = p) || mkF S x (cpa S x) p) := by
      show (if _ then _ else _) = _
      rw [if_neg q]
    rw [e, if_neg q, mkF_more hp x (cpa S x + 1) (cpa S x) p (by omega) (by omega) (by omega)]
theorem mvcF_mk (t : Nat) : ∀ f x M p, mvcF S t f x M p = if mkF S f x p = true then t else M p := by
  intro f
  induction f with
  | zero => intro x M p; rfl
  | succ f ih =>
    intro x M p
    unfold mvcF mkF
    by_cases q : ¬ ot S x = 0 ∨ cpa S x = 0
    · rw [if_pos q, if_pos q]; rfl
    · rw [if_neg q, if_neg q, ih]
      by_cases e : p = cpa S x
      · rw [if_pos e, decide_eq_true e.symm]
        simp
      · rw [if_neg e, decide_eq_false (fun z => e z.symm)]
        simp
theorem mvU_mk : ∀ n lo M p, (mvU S lo n M p = M p ∧ ∀ t, lo ≤ t → t < lo + n → tb S t = 2 → mk S t p = false) ∨ (lo ≤ mvU S lo n M p ∧ mvU S lo n M p < lo + n ∧ tb S (mvU S lo n M p) = 2 ∧ mk S (mvU S lo n M p) p = true) := by
  intro n
  induction n with
  | zero => intro lo M p; left; exact ⟨rfl, fun t a c => by omega⟩
  | succ n ih =>
    intro lo M p
    have e : mvU S lo (n + 1) M p = mvU S (lo + 1) n (mvs S lo M) p := rfl
    rw [e]
    rcases ih (lo + 1) (mvs S lo M) p with ⟨q1, q2⟩ | ⟨q1, q2, q3, q4⟩
    · rw [q1]
      have em : mvs S lo M p = if tb S lo = 2 ∧ mk S lo p = true then lo else M p := by
        unfold mvs
        by_cases t2 : tb S lo = 2
        · rw [if_pos t2, mvcF_mk]
          show (if mk S lo p = true then lo else M p) = _
          simp [t2]
        · rw [if_neg t2, if_neg (fun z => t2 z.1)]
      rw [em]
      by_cases z : tb S lo = 2 ∧ mk S lo p = true
      · right; rw [if_pos z]; exact ⟨Nat.le_refl _, by omega, z.1, z.2⟩
      · left; rw [if_neg z]
        refine ⟨rfl, fun t a c ht => ?_⟩
        by_cases e : t = lo
        · rw [e] at ht ⊢
          cases hq : mk S lo p with
          | false => rfl
          | true => exact absurd ⟨ht, hq⟩ z
        · exact q2 t (by omega) (by omega) ht
    · right; exact ⟨by omega, by omega, q3, q4⟩
theorem mvf_mk (p : Nat) : (mvf S p = 0 ∧ ∀ t, 1 ≤ t → t ≤ sN S → tb S t = 2 → mk S t p = false) ∨ (1 ≤ mvf S p ∧ mvf S p ≤ sN S ∧ tb S (mvf S p) = 2 ∧ mk S (mvf S p) p = true) := by
  rcases mvU_mk (S := S) (sN S) 1 (fun _ => 0) p with ⟨q1, q2⟩ | ⟨q1, q2, q3, q4⟩
  · left; exact ⟨q1, fun t a c => q2 t a (by omega)⟩
  · right
    have e : mvf S p = mvU S 1 (sN S) (fun _ => 0) p := rfl
    rw [e]
    exact ⟨q1, by omega, q3, q4⟩
/-- more of a state: records, tables that depend -/
def WD (S : sg) : Prop := (∀ i, 1 ≤ i → i ≤ sN S → lies S i = true → ¬ cpa S i = 0 → rc S (cpa S i) = rc S i) ∧ (∀ i, tb S i = 2 → tabs S i = 1)
theorem tabs_0 (hp : ∀ i, 0 < i → cpa S i < i) : ∀ x j, tabs S x = 0 → onc S x j = true → tb S j = 0 := by
  intro x
  induction x using Nat.strongRecOn with
  | _ x ih =>
    intro j h hj
    have := onc_le hp _ _ hj
    have hs := tabs_step hp (j := x) (by omega)
    rw [h] at hs
    have px := hp x (by omega)
    by_cases ht : tb S x = 0
    · rw [if_neg (by omega)] at hs
      rcases onc_or hp hj with q | q
      · rw [q]; exact ht
      · exact ih _ px j (by omega) q
    · rw [if_pos ht] at hs; omega
theorem rc_onc (W : WB S U) (D : WD S) : ∀ x j, x ≤ sN S → lies S x = true → onc S x j = true → rc S j = rc S x ∧ lies S j = true := by
  intro x
  induction x using Nat.strongRecOn with
  | _ x ih =>
    intro j h2 hl hj
    have := onc_le W.p _ _ hj
    rcases onc_or W.p hj with q | q
    · rw [q]; exact ⟨rfl, hl⟩
    · have hc : ¬ cpa S x = 0 := fun e => by rw [e] at q; cases q
      have px := W.p x (by omega)
      have := ih _ px j (by omega) (W.ch (by omega) h2 hl hc).1 q
      rw [this.1, D.1 x (by omega) h2 hl hc]
      exact ⟨rfl, this.2⟩
theorem mk_onc (hp : ∀ i, 0 < i → cpa S i < i) : ∀ x p, 0 < x → mk S x p = true → onc S (cpa S x) p = true := by
  intro x
  induction x using Nat.strongRecOn with
  | _ x ih =>
    intro p hx h
    rw [mk_step hp hx] at h
    by_cases q : ¬ ot S x = 0 ∨ cpa S x = 0
    · rw [if_pos q] at h; cases h
    · rw [if_neg q, Bool.or_eq_true, decide_eq_true_eq] at h
      rcases h with h | h
      · rw [← h]; exact onc_self hp (by omega)
      · exact onc_up hp (by omega) (ih _ (hp x hx) p (by omega) h)
theorem mv_end (W : WB S U) (D : WD S) (ok : fwr S U true = 0) {t : Nat} (h1 : 1 ≤ t) (h2 : t ≤ sN S) (ht : tb S t = 2) : ∀ c p, onc S t c = true → mk S c p = true → mfin S U true 0 c + xtn S (mfin S U true) c = mfin S U true 0 t + xtn S (mfin S U true) t → mfin S U true 1 p = mfin S U true 0 t + xtn S (mfin S U true) t := by
  have lt : lies S t = true := by
    have := W.tm (i := t) (by omega)
    unfold lies
    rw [decide_eq_true (by omega : lv S t < 50)]; rfl
  have hlast := (rgt_l lt (fwr_rgt ok h1 h2)).2.1 ht
  unfold lst at hlast
  rw [rall_iff] at hlast
  have hl1 : ∀ k, t < k → k ≤ sN S → rc S k = rc S t → lies S k = true → bel S k t = true := fun k a b => of_decide_eq_true (hlast k (by omega) (by omega))
  have t1 := D.2 t ht
  have t0 : tabs S (cpa S t) = 0 := by
    have := tabs_step W.p (j := t) (by omega)
    rw [if_pos (by omega)] at this
    omega
  intro c
  induction c using Nat.strongRecOn with
  | _ c ih =>
    intro p hc hm he
    have lc := onc_le W.p _ _ hc
    obtain ⟨rcc, llc⟩ := rc_onc W D t c h2 lt hc
    have pc := W.p c (by omega)
    rw [mk_step W.p (by omega)] at hm
    by_cases q : ¬ ot S c = 0 ∨ cpa S c = 0
    · rw [if_pos q] at hm; cases hm
    · rw [if_neg q, Bool.or_eq_true, decide_eq_true_eq] at hm
      have hcp : ¬ cpa S c = 0 := by omega
      have hot : ot S c = 0 := by omega
      have lpc := (W.ch (by omega) (by omega) llc hcp).1
      have e1 : mfin S U true 1 (cpa S c) = mfin S U true 0 c + exf S U (mfin S U true) c := by
        refine IN2.mf (b := true) W c (by omega) (by omega) llc rfl hcp hot (fun d a1 a2 a3 a4 a5 => ?_)
        exfalso
        have hd : onc S (cpa S d) c = true := by
          by_cases hdt : d ≤ t
          · have I := INV.ms (b := true) W t h2
            have eo : opn S t = t := by
              obtain ⟨k, rfl⟩ : ∃ k, t = k + 1 := ⟨t - 1, by omega⟩
              show (if _ then _ else _) = _
              rw [if_pos lt]
            rw [eo] at I
            exact I.2.2.2.2.1 c d hc a1 hdt a3
          · have rd' : rc S d = rc S t := by
              rw [← D.1 d (by omega) a2 a3 (by omega), a4, D.1 c (by omega) (by omega) llc hcp, rcc]
            have := hl1 d (by omega) a2 rd' a3
            exact onc_trans W.p _ _ _ this hc
        have := onc_le W.p _ _ hd
        omega
      rw [← (xtn_exf W (by omega) (by omega) llc).1, he] at e1
      rcases hm with hm | hm
      · rw [← hm]; exact e1
      · have hcp' : onc S t (cpa S c) = true := onc_par W.p hc hcp
        have ntab : tb S (cpa S c) = 0 := by
          refine tabs_0 W.p (cpa S t) _ t0 ?_
          rcases onc_or W.p hcp' with q2 | q2
          · omega
          · exact q2
        refine ih _ pc p hcp' hm ?_
        rw [← e1]
        unfold xtn
        rw [if_pos ntab]
        have := (len_xtn W (i := cpa S c) (by omega) (by omega) lpc).1
        omega
/-- there is one at most -/
theorem mv_one (W : WB S U) (D : WD S) (ok : fwr S U true = 0) {t u p : Nat} (h1 : 1 ≤ t) (h2 : t ≤ sN S) (ht : tb S t = 2) (g1 : 1 ≤ u) (g2 : u ≤ sN S) (hu : tb S u = 2) (mt : mk S t p = true) (mu : mk S u p = true) : t = u := by
  have key : ∀ t u, 1 ≤ t → t < u → u ≤ sN S → tb S t = 2 → tb S u = 2 → mk S t p = true → mk S u p = true → False := by
    intro t u h1 h2 h3 ht hu mt mu
    have lt : ∀ t, tb S t = 2 → lies S t = true := fun t ht => by
      have := W.tm (i := t) (by omega)
      unfold lies
      rw [decide_eq_true (by omega : lv S t < 50)]; rfl
    have hlast := (rgt_l (lt t ht) (fwr_rgt ok h1 (by omega))).2.1 ht
    unfold lst at hlast
    rw [rall_iff] at hlast
    have rct := rc_onc W D t p (by omega) (lt t ht) (onc_up W.p (by omega) (mk_onc W.p t p (by omega) mt))
    have rcu := rc_onc W D u p (by omega) (lt u hu) (onc_up W.p (by omega) (mk_onc W.p u p (by omega) mu))
    have hb : onc S (cpa S u) t = true := of_decide_eq_true (hlast u (by omega) (by omega)) (by rw [← rct.1, ← rcu.1]) (lt u hu)
    have t1 := D.2 u hu
    have ts := tabs_step W.p (j := u) (by omega)
    rw [if_pos (by omega)] at ts
    have := tabs_0 W.p (cpa S u) t (by omega) hb
    omega
  by_cases e : t = u
  · exact e
  · exfalso
    by_cases l : t < u
    · exact key t u h1 l g2 ht hu mt mu
    · exact key u t g1 (by omega) h2 hu ht mu mt
theorem mv_len (W : WB S U) (D : WD S) (ok : fwr S U true = 0) {p : Nat} (h : ¬ mvf S p = 0) : mfin S U true 1 p = mfin S U true 0 (mvf S p) + mo S (mvf S p) * mfin S U true 2 (mvf S p) := by
  rcases mvf_mk (S := S) p with q | ⟨q1, q2, q3, q4⟩
  · exact absurd q.1 h
  · rw [mv_end W D ok q1 q2 q3 (mvf S p) p (onc_self W.p (by omega)) q4 rfl]
    unfold xtn
    rw [if_neg (by omega)]
end Mov1
