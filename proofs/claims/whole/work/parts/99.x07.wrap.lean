def hhL_subscript : List (Nat × Nat × Nat × Nat) := [(0, 14, 17, 13)]
theorem dL_subscript_0 : decode cL_subscript 0 = .ok (.aload 5, 2) := by decide +kernel
theorem dL_subscript_2 : decode cL_subscript 2 = .ok (.iconst 0, 1) := by decide +kernel
theorem dL_subscript_3 : decode cL_subscript 3 = .ok (.aload_n 0, 1) := by decide +kernel
theorem dL_subscript_4 : decode cL_subscript 4 = .ok (.iload_n 1, 1) := by decide +kernel
theorem dL_subscript_5 : decode cL_subscript 5 = .ok (.iload_n 2, 1) := by decide +kernel
theorem dL_subscript_6 : decode cL_subscript 6 = .ok (.iload_n 3, 1) := by decide +kernel
theorem dL_subscript_7 : decode cL_subscript 7 = .ok (.iload 4, 2) := by decide +kernel
theorem dL_subscript_9 : decode cL_subscript 9 = .ok (.invokevirtual 7, 3) := by decide +kernel
theorem dL_subscript_12 : decode cL_subscript 12 = .ok (.i2l, 1) := by decide +kernel
theorem dL_subscript_13 : decode cL_subscript 13 = .ok (.lastore, 1) := by decide +kernel
theorem dL_subscript_14 : decode cL_subscript 14 = .ok (.goto 7, 3) := by decide +kernel
theorem dL_subscript_17 : decode cL_subscript 17 = .ok (.astore 6, 2) := by decide +kernel
theorem dL_subscript_19 : decode cL_subscript 19 = .ok (.iconst 1, 1) := by decide +kernel
theorem dL_subscript_20 : decode cL_subscript 20 = .ok (.ireturn, 1) := by decide +kernel
theorem dL_subscript_21 : decode cL_subscript 21 = .ok (.iconst 0, 1) := by decide +kernel
theorem dL_subscript_22 : decode cL_subscript 22 = .ok (.ireturn, 1) := by decide +kernel
theorem cw_RL_54 : jcw RL 54 mL_subscript hhL_subscript 6 := ⟨jtb_at 672 (by decide +kernel) rfl, jtb_at 54 (by decide +kernel) rfl, jtb_at 674 (by decide +kernel) rfl, by decide +kernel, jtb_at 673 (by decide +kernel) rfl⟩
def hhL_at : List (Nat × Nat × Nat × Nat) := [(0, 9, 12, 13)]
theorem dL_at_0 : decode cL_at 0 = .ok (.aload_n 2, 1) := by decide +kernel
theorem dL_at_1 : decode cL_at 1 = .ok (.iconst 0, 1) := by decide +kernel
theorem dL_at_2 : decode cL_at 2 = .ok (.aload_n 0, 1) := by decide +kernel
theorem dL_at_3 : decode cL_at 3 = .ok (.iload_n 1, 1) := by decide +kernel
theorem dL_at_4 : decode cL_at 4 = .ok (.invokevirtual 15, 3) := by decide +kernel
theorem dL_at_7 : decode cL_at 7 = .ok (.i2l, 1) := by decide +kernel
theorem dL_at_8 : decode cL_at 8 = .ok (.lastore, 1) := by decide +kernel
theorem dL_at_9 : decode cL_at 9 = .ok (.goto 6, 3) := by decide +kernel
theorem dL_at_12 : decode cL_at 12 = .ok (.astore_n 3, 1) := by decide +kernel
theorem dL_at_13 : decode cL_at 13 = .ok (.iconst 1, 1) := by decide +kernel
theorem dL_at_14 : decode cL_at 14 = .ok (.ireturn, 1) := by decide +kernel
theorem dL_at_15 : decode cL_at 15 = .ok (.iconst 0, 1) := by decide +kernel
theorem dL_at_16 : decode cL_at 16 = .ok (.ireturn, 1) := by decide +kernel
theorem cw_RL_89 : jcw RL 89 mL_at hhL_at 3 := ⟨jtb_at 758 (by decide +kernel) rfl, jtb_at 54 (by decide +kernel) rfl, jtb_at 760 (by decide +kernel) rfl, by decide +kernel, jtb_at 759 (by decide +kernel) rfl⟩
def hhL_holds : List (Nat × Nat × Nat × Nat) := [(0, 16, 19, 23), (0, 16, 22, 25)]
theorem dL_holds_0 : decode cL_holds 0 = .ok (.aload_n 2, 1) := by decide +kernel
theorem dL_holds_1 : decode cL_holds 1 = .ok (.iconst 0, 1) := by decide +kernel
theorem dL_holds_2 : decode cL_holds 2 = .ok (.aload_n 0, 1) := by decide +kernel
theorem dL_holds_3 : decode cL_holds 3 = .ok (.iload_n 1, 1) := by decide +kernel
theorem dL_holds_4 : decode cL_holds 4 = .ok (.invokevirtual 19, 3) := by decide +kernel
theorem dL_holds_7 : decode cL_holds 7 = .ok (.ifCond .eq 7, 3) := by decide +kernel
theorem dL_holds_10 : decode cL_holds 10 = .ok (.lconst 1, 1) := by decide +kernel
theorem dL_holds_11 : decode cL_holds 11 = .ok (.goto 4, 3) := by decide +kernel
theorem dL_holds_14 : decode cL_holds 14 = .ok (.lconst 0, 1) := by decide +kernel
theorem dL_holds_15 : decode cL_holds 15 = .ok (.lastore, 1) := by decide +kernel
theorem dL_holds_16 : decode cL_holds 16 = .ok (.goto 9, 3) := by decide +kernel
theorem dL_holds_19 : decode cL_holds 19 = .ok (.astore_n 3, 1) := by decide +kernel
theorem dL_holds_20 : decode cL_holds 20 = .ok (.iconst 1, 1) := by decide +kernel
theorem dL_holds_21 : decode cL_holds 21 = .ok (.ireturn, 1) := by decide +kernel
theorem dL_holds_22 : decode cL_holds 22 = .ok (.astore_n 3, 1) := by decide +kernel
theorem dL_holds_23 : decode cL_holds 23 = .ok (.iconst 2, 1) := by decide +kernel
theorem dL_holds_24 : decode cL_holds 24 = .ok (.ireturn, 1) := by decide +kernel
theorem dL_holds_25 : decode cL_holds 25 = .ok (.iconst 0, 1) := by decide +kernel
theorem dL_holds_26 : decode cL_holds 26 = .ok (.ireturn, 1) := by decide +kernel
theorem cw_RL_98 : jcw RL 98 mL_holds hhL_holds 3 := ⟨jtb_at 770 (by decide +kernel) rfl, jtb_at 54 (by decide +kernel) rfl, jtb_at 772 (by decide +kernel) rfl, by decide +kernel, jtb_at 771 (by decide +kernel) rfl⟩
theorem xw_RL_13 : Cond.classLink RL 13 (jxn 0) ∈ jtb := jtb_at 675 (by decide +kernel) rfl
theorem xw_RL_23 : Cond.classLink RL 23 (jxn 1) ∈ jtb := jtb_at 773 (by decide +kernel) rfl
theorem xw_RL_25 : Cond.classLink RL 25 (jxn 2) ∈ jtb := jtb_at 774 (by decide +kernel) rfl
theorem jki_kx {K : Int32 → jh → Prop} {K' : Option jv → jh → Prop} {X X' : Nat → jh → Prop} (hK : ∀ x h, K x h → K' (some (.inl x)) h) (hX : ∀ e h, X e h → X' e h) : ∀ r h, jki K X r h → jk K' X' r h := by
  intro r h
  match r with
  | .inl (some (.inl x)) => exact hK x h
  | .inl none => exact fun z => z.elim
  | .inl (some (.inr x)) => exact fun z => z.elim
  | .inr e => exact hX e h
theorem vp_in0 {n : Nat} (h : n = 1) : vp_in 0 n := by subst h; unfold vp_in; decide
/-- the law's subscript: 1 where an ArrayIndexOutOfBoundsException comes, else 0 and the answer in out[0] -/
theorem w_subscript {g : jg} {x o : Nat} {p0 p1 p2 p3 : Int32} {h : jh} {mc ms : Nat} {Q : jq} (hx : jt h x = 8)
    (hM : jM g mX9_subscript [.inr (.inr (some x)), .inl p0, .inl p1, .inl p2, .inl p3] h mc ms (jki (fun r h' => jt h' o = 22 ∧ jn h' o = 1 ∧ Q (.inl (some (.inl 0))) (jsL h' o 0 r.toInt64)) (fun e h' => e = 0 ∧ Q (.inl (some (.inl 1))) h'))) :
    jMW g mL_subscript hhL_subscript [.inr (.inr (some x)), .inl p0, .inl p1, .inl p2, .inl p3, .inr (.inr (some o))] h mc ms Q := by
  refine jMW.of (by decide) (Nat.le_of_ble_eq_true rfl) (lv := [(0, .inr (.inr (some x))), (1, .inl p0), (2, .inl p1), (3, .inl p2), (4, .inl p3), (5, .inr (.inr (some o)))]) rfl ?_
  refine jw_aload (o := some o) dL_subscript_0 (List.Mem.tail _ (List.Mem.tail _ (List.Mem.tail _ (List.Mem.tail _ (List.Mem.tail _ (List.Mem.head _)))))) ?_
  refine jw_iconst (v := 0) dL_subscript_2 (by decide) ?_
  refine jw_aload_n (o := some x) dL_subscript_3 rfl (List.Mem.head _) ?_
  refine jw_iload_n (x := p0) dL_subscript_4 rfl (List.Mem.tail _ (List.Mem.head _)) ?_
  refine jw_iload_n (x := p1) dL_subscript_5 rfl (List.Mem.tail _ (List.Mem.tail _ (List.Mem.head _))) ?_
  refine jw_iload_n (x := p2) dL_subscript_6 rfl (List.Mem.tail _ (List.Mem.tail _ (List.Mem.tail _ (List.Mem.head _)))) ?_
  refine jw_iload (x := p3) dL_subscript_7 (List.Mem.tail _ (List.Mem.tail _ (List.Mem.tail _ (List.Mem.tail _ (List.Mem.head _))))) ?_
  refine jw_callV mX9_subscript [.inl p0, .inl p1, .inl p2, .inl p3] [.inl 0, .inr (.inr (some o))] dL_subscript_9 rfl cl_RL_7 ⟨⟨by decide, by decide⟩, jcat_le _ (Nat.le_of_ble_eq_true rfl)⟩ hx (Nat.le_refl _) (Nat.le_refl _) (jM.mono (jki_kx ?_ ?_) hM)
  · intro r h' hq
    obtain ⟨h1, h2, h3⟩ := hq
    refine jw_i2l dL_subscript_12 ?_
    refine jw_last (o := some o) dL_subscript_13 jsn h1 (vp_in0 h2) ?_
    refine jw_goto (tgt := 21) dL_subscript_14 (by decide) ?_
    refine jw_iconst (v := 0) dL_subscript_21 (by decide) ?_
    exact jw_iret dL_subscript_22 rfl h3
  · intro e h' hq
    obtain ⟨rfl, hq⟩ := hq
    refine ⟨17, ⟨by decide, by decide, by decide, Or.inl ⟨xw_RL_13, rfl⟩⟩, fun q => ?_⟩
    refine jw_astore (j := 6) dL_subscript_17 (by decide) rfl ?_
    refine jw_iconst (v := 1) dL_subscript_19 (by decide) ?_
    exact jw_iret dL_subscript_20 rfl hq
theorem w_at {g : jg} {x o : Nat} {p0 : Int32} {h : jh} {mc ms : Nat} {Q : jq} (hx : jt h x = 8)
    (hM : jM g mX9_at [.inr (.inr (some x)), .inl p0] h mc ms (jki (fun r h' => jt h' o = 22 ∧ jn h' o = 1 ∧ Q (.inl (some (.inl 0))) (jsL h' o 0 r.toInt64)) (fun e h' => e = 0 ∧ Q (.inl (some (.inl 1))) h'))) :
    jMW g mL_at hhL_at [.inr (.inr (some x)), .inl p0, .inr (.inr (some o))] h mc ms Q := by
  refine jMW.of (by decide) (Nat.le_of_ble_eq_true rfl) (lv := [(0, .inr (.inr (some x))), (1, .inl p0), (2, .inr (.inr (some o)))]) rfl ?_
  refine jw_aload_n (o := some o) dL_at_0 rfl (List.Mem.tail _ (List.Mem.tail _ (List.Mem.head _))) ?_
  refine jw_iconst (v := 0) dL_at_1 (by decide) ?_
  refine jw_aload_n (o := some x) dL_at_2 rfl (List.Mem.head _) ?_
  refine jw_iload_n (x := p0) dL_at_3 rfl (List.Mem.tail _ (List.Mem.head _)) ?_
  refine jw_callV mX9_at [.inl p0] [.inl 0, .inr (.inr (some o))] dL_at_4 rfl cl_RL_15 ⟨⟨by decide, by decide⟩, jcat_le _ (Nat.le_of_ble_eq_true rfl)⟩ hx (Nat.le_refl _) (Nat.le_refl _) (jM.mono (jki_kx ?_ ?_) hM)
  · intro r h' hq
    obtain ⟨h1, h2, h3⟩ := hq
    refine jw_i2l dL_at_7 ?_
    refine jw_last (o := some o) dL_at_8 jsn h1 (vp_in0 h2) ?_
    refine jw_goto (tgt := 15) dL_at_9 (by decide) ?_
    refine jw_iconst (v := 0) dL_at_15 (by decide) ?_
    exact jw_iret dL_at_16 rfl h3
  · intro e h' hq
    obtain ⟨rfl, hq⟩ := hq
    refine ⟨12, ⟨by decide, by decide, by decide, Or.inl ⟨xw_RL_13, rfl⟩⟩, fun q => ?_⟩
    refine jw_astore_n (j := 3) dL_at_12 rfl (by decide) rfl ?_
    refine jw_iconst (v := 1) dL_at_13 (by decide) ?_
    exact jw_iret dL_at_14 rfl hq
theorem w_holds {g : jg} {x o : Nat} {p0 : Int32} {h : jh} {mc ms : Nat} {Q : jq} (hx : jt h x = 8)
    (hM : jM g mX9_holds [.inr (.inr (some x)), .inl p0] h mc ms (jki (fun r h' => jt h' o = 22 ∧ jn h' o = 1 ∧ Q (.inl (some (.inl 0))) (jsL h' o 0 (if r = 0 then 0 else 1))) (fun e h' => (e = 1 ∧ Q (.inl (some (.inl 1))) h') ∨ (e = 2 ∧ Q (.inl (some (.inl 2))) h')))) :
    jMW g mL_holds hhL_holds [.inr (.inr (some x)), .inl p0, .inr (.inr (some o))] h mc ms Q := by
  refine jMW.of (by decide) (Nat.le_of_ble_eq_true rfl) (lv := [(0, .inr (.inr (some x))), (1, .inl p0), (2, .inr (.inr (some o)))]) rfl ?_
  refine jw_aload_n (o := some o) dL_holds_0 rfl (List.Mem.tail _ (List.Mem.tail _ (List.Mem.head _))) ?_
  refine jw_iconst (v := 0) dL_holds_1 (by decide) ?_
  refine jw_aload_n (o := some x) dL_holds_2 rfl (List.Mem.head _) ?_
  refine jw_iload_n (x := p0) dL_holds_3 rfl (List.Mem.tail _ (List.Mem.head _)) ?_
  refine jw_callV mX9_holds [.inl p0] [.inl 0, .inr (.inr (some o))] dL_holds_4 rfl cl_RL_19 ⟨⟨by decide, by decide⟩, jcat_le _ (Nat.le_of_ble_eq_true rfl)⟩ hx (Nat.le_refl _) (Nat.le_refl _) (jM.mono (jki_kx ?_ ?_) hM)
  · intro r h' hq
    obtain ⟨h1, h2, h3⟩ := hq
    refine jw_if_eq (tgt := 14) dL_holds_7 (by decide) (fun hr => ?_) (fun hr => ?_)
    · rw [if_pos hr] at h3
      refine jw_lconst (v := 0) dL_holds_14 (by decide) ?_
      refine jw_last (o := some o) dL_holds_15 jsn h1 (vp_in0 h2) ?_
      refine jw_goto (tgt := 25) dL_holds_16 (by decide) ?_
      refine jw_iconst (v := 0) dL_holds_25 (by decide) ?_
      exact jw_iret dL_holds_26 rfl h3
    · rw [if_neg hr] at h3
      refine jw_lconst (v := 1) dL_holds_10 (by decide) ?_
      refine jw_goto (tgt := 15) dL_holds_11 (by decide) ?_
      refine jw_last (o := some o) dL_holds_15 jsn h1 (vp_in0 h2) ?_
      refine jw_goto (tgt := 25) dL_holds_16 (by decide) ?_
      refine jw_iconst (v := 0) dL_holds_25 (by decide) ?_
      exact jw_iret dL_holds_26 rfl h3
  · intro e h' hq
    rcases hq with ⟨rfl, hq⟩ | ⟨rfl, hq⟩
    · refine ⟨19, ⟨by decide, by decide, by decide, Or.inl ⟨xw_RL_23, rfl⟩⟩, fun q => ?_⟩
      refine jw_astore_n (j := 3) dL_holds_19 rfl (by decide) rfl ?_
      refine jw_iconst (v := 1) dL_holds_20 (by decide) ?_
      exact jw_iret dL_holds_21 rfl hq
    · refine ⟨22, ⟨by decide, by decide, by decide, Or.inr ⟨rfl, xw_RL_23, by decide, by decide, by decide, Or.inl ⟨xw_RL_25, rfl⟩⟩⟩, fun q => ?_⟩
      refine jw_astore_n (j := 3) dL_holds_22 rfl (by decide) rfl ?_
      refine jw_iconst (v := 2) dL_holds_23 (by decide) ?_
      exact jw_iret dL_holds_24 rfl hq
