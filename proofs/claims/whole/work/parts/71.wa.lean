/-! the invariant of a state -/
def WLD (S : sg) : Prop := laid S ≤ 1 ∧ (laid S = 1 → fwr S (gU S) true = 0 ∧ sF S 4 0 ≤ 20000 ∧ tot S = sF S 4 0 ∧ ∀ i, pl S i = (if rn S i = 0 then sF S 0 i else sF S 0 (rn S i)) ∧ ln S i = (if rn S i = 0 then sF S 1 i - sF S 0 i else sF S 1 (rm S i) - sF S 0 (rn S i)) ∧ sd S i = sF S 2 i ∧ sk S i = sF S 3 i ∧ mv S i = mvf S i)
def WA (S : sg) : Prop := WF S ∧ WS1 S ∧ WS2 S ∧ WZ S ∧ WV S ∧ WLD S ∧ looks S ≤ 1 ∧ WY S
section Wa1
variable {S S' : sg}
theorem WM_of (F : WF S) (A : WS1 S) (B : WS2 S) (L : WLD S) : WM S := by
  have W := WB_of F A B
  have D := WD_of F A B
  refine ⟨L.1, fun hl => ?_⟩
  obtain ⟨ok, t2, te, hi⟩ := L.2 hl
  have hlie : ∀ i, 1 ≤ i → i ≤ sN S → lies S i = true → sF S 0 i ≤ sF S 1 i ∧ sF S 1 i ≤ sF S 4 0 ∧ sF S 0 i + xtn S (sF S) i ≤ sF S 4 0 := fun i h1 h2 ll => by
    have a := g_all W ok i h1 h2 ll
    have b := len_xtn W h1 h2 ll
    refine ⟨?_, ?_, a⟩
    · have : mfin S (gU S) true 0 i ≤ mfin S (gU S) true 1 i := by omega
      exact this
    · exact Nat.le_trans b.2 a
  have rn0 : ∀ i, lies S i = true → 1 ≤ i → i ≤ sN S → rn S i = 0 := fun i ll h1 h2 => by
    by_cases q : rn S i = 0
    · exact q
    · have := (WP_of B i h1 h2 q).1
      have := lies_of ll
      omega
  refine ⟨by rw [te]; exact t2, fun i h1 h2 => ⟨fun n88 => ?_, fun m0 => ?_, fun t0 => ?_⟩⟩
  · obtain ⟨e1, e2, -⟩ := hi i
    rw [e1, e2, te]
    by_cases ll : lies S i = true
    · rw [if_pos (rn0 i ll h1 h2), if_pos (rn0 i ll h1 h2)]
      have := hlie i h1 h2 ll
      omega
    · have l66 : lv S i = 66 := by
        have := (A i h1 h2).1
        have : ¬ (lv S i < 50 ∨ lv S i = 77) := fun q => ll (lies_mk q)
        omega
      have hr := fwr_rgt ok h1 h2
      have rg66 : rgt S (gU S) true (mfin S (gU S) true) i = rpt S (rn S i) (rm S i) := by
        unfold rgt
        rw [if_neg n88, if_pos l66]
      rw [rg66] at hr
      obtain ⟨p1, p2, -⟩ := of_decide_eq_true hr
      have pp := WP_of B i h1 h2 p1
      have wn : rn S i ≤ sN S := F.2.2.2.2.2.2.2.2.2.2.2.2.2.1 i
      have wm : rm S i ≤ sN S := F.2.2.2.2.2.2.2.2.2.2.2.2.2.2.1 i
      have a := hlie (rn S i) (by omega) wn pp.2.1
      have b := hlie (rm S i) (by omega) wm (pp.2.2 p2)
      rw [if_neg p1, if_neg p1]
      omega
  · obtain ⟨e1, e2, e3, e4, e5⟩ := hi i
    rw [e5] at m0 ⊢
    have ml := mv_len W D ok m0
    rcases mvf_mk (S := S) i with q | ⟨q1, q2, q3, q4⟩
    · exact absurd q.1 m0
    · have lt : lies S (mvf S i) = true := by
        have := W.tm (i := mvf S i) (by omega)
        exact lies_mk (by omega)
      have on := onc_up W.p (by omega) (mk_onc W.p _ _ (by omega) q4)
      have li : lies S i = true := lies_onc W _ _ q2 lt on
      have r0 := rn0 i li h1 h2
      have oi := (off_in W ok (f := fun _ => 0) (mvf S i) i q2 lt on (fun t _ ht => (W.tm ht).1)).1
      rw [e2, if_pos r0, (hi (mvf S i)).2.2.1]
      refine ⟨q2, by omega, ?_⟩
      have mm : (mo S (mvf S i) - nw S (mvf S i)) * sF S 2 (mvf S i) ≤ mo S (mvf S i) * sF S 2 (mvf S i) := Nat.mul_le_mul_right _ (Nat.sub_le _ _)
      have ml' : sF S 1 i = sF S 0 (mvf S i) + mo S (mvf S i) * sF S 2 (mvf S i) := ml
      have oi' : sF S 0 i ≤ sF S 0 (mvf S i) := oi
      omega
  · have tm := W.tm t0
    have ll : lies S i = true := lies_mk (by omega)
    have := (hlie i h1 h2 ll).2.2
    rw [(hi i).2.2.1, te]
    have hx : xtn S (sF S) i = mo S i * sF S 2 i := by unfold xtn; rw [if_neg t0]
    have : sF S 2 i ≤ mo S i * sF S 2 i := Nat.le_mul_of_pos_left _ (by omega)
    omega
theorem WH_of (F : WF S) (A : WS1 S) (B : WS2 S) (L : WLD S) : WH S := by
  have W := WB_of F A B
  intro i h1 h2 hn
  have l88 : lv S i = 88 := by
    by_cases q : lv S i = 88
    · exact q
    · exact absurd (if_neg q) hn
  have en : nam S i = pa S i := if_pos l88
  rw [en]
  obtain ⟨a1, a2, a3, a4, a5, -⟩ := A i h1 h2
  obtain ⟨b1, b2, b3, b4⟩ := a5 l88
  have pi := F.2.1 i (by omega)
  have hu := of_decide_eq_true (A (pa S i) b1 (by omega)).2.1
  have wl := (A (pa S i) b1 (by omega)).1
  refine ⟨by omega, b2, b3, by omega, by omega, by omega, fun hl => ?_⟩
  obtain ⟨ok, t2, te, hi⟩ := L.2 hl
  have ll : lies S (pa S i) = true := lies_mk (by omega)
  have r0 : rn S (pa S i) = 0 := by
    by_cases q : rn S (pa S i) = 0
    · exact q
    · have := (WP_of B _ b1 (by omega) q).1
      have := lies_of ll
      omega
  rw [(hi _).1, if_pos r0, te]
  have a := g_all W ok (pa S i) b1 (by omega) ll
  have b := len_xtn W b1 (by omega) ll
  show mfin S (gU S) true 0 (pa S i) + _ ≤ mfin S (gU S) true 4 0
  omega
theorem eqv.eva (h : eqv S S') : va S' = va S := h.1 11 (by decide) (by decide) (by decide)
theorem eqv.erd (h : eqv S S') : rd S' = rd S := h.1 22 (by decide) (by decide) (by decide)
theorem eqv.eonc (h : eqv S S') : onc S' = onc S := by
  funext x j
  show chk _ _ _ = chk _ _ _
  rw [h.ecpa]
theorem eqv.w1 (h : eqv S S') (W : WS1 S) : WS1 S' := by
  unfold WS1
  rw [h.en, h.elv, h.eus, h.edg, h.epa, h.eonc, h.eopn, h.erc, h.elb, h.elies, h.ecpa]
  exact W
theorem eqv.w2 (h : eqv S S') (W : WS2 S) : WS2 S' := by
  unfold WS2
  rw [h.en, h.elv, h.eus, h.edg, h.etb, h.erd, h.emo, h.etabs, h.esy, h.eva, h.evl, h.easide, h.eot, h.ecpa, h.ena, h.ern, h.erm, h.erc, h.ebel, h.erg]
  exact W
theorem eqv.wld (h : eqv S S') (W : WLD S) (h17 : laid S' = laid S) (h2 : ∀ a, 23 ≤ a → a ≤ 28 → S'.1 a = S.1 a) : WLD S' := by
  refine ⟨by rw [h17]; exact W.1, fun hl => ?_⟩
  rw [h17] at hl
  obtain ⟨a, b, c, d⟩ := W.2 hl
  have t : tot S' = tot S := congrFun (h2 28 (by decide) (by decide)) 0
  refine ⟨h.efwr.trans a, by rw [h.esF]; exact b, by rw [t, h.esF]; exact c, fun i => ?_⟩
  have p1 : pl S' i = pl S i := congrFun (h2 23 (by decide) (by decide)) i
  have p2 : ln S' i = ln S i := congrFun (h2 24 (by decide) (by decide)) i
  have p3 : sd S' i = sd S i := congrFun (h2 25 (by decide) (by decide)) i
  have p4 : sk S' i = sk S i := congrFun (h2 26 (by decide) (by decide)) i
  have p5 : mv S' i = mv S i := congrFun (h2 27 (by decide) (by decide)) i
  rw [p1, p2, p3, p4, p5, h.ern, h.erm, h.esF, h.emvf]
  exact d i
theorem WLD.no (h : laid S = 0) : WLD S := ⟨by omega, fun q => by omega⟩
end Wa1
