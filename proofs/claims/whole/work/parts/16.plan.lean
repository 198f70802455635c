/-! what the code asks, by program: X3_init X3_layAll X3_gatherUnits X3_begin X3_beginOfRecord X3_beginBelow X3_isLaterExternal X3_finishUpTo X3_finish X3_placeParts X3_markMoving X3_firstWrong X3_isRight X3_isRightPart X3_isLastOfRecord X3_fitsOver X3_fitsFirstOfName X3_roundUp -/
theorem dX3_init_0 : decode cX3_init 0 = .ok (.aload_n 0, 1) := by decide +kernel
theorem dX3_init_1 : decode cX3_init 1 = .ok (.invokespecial 3, 3) := by decide +kernel
theorem dX3_init_4 : decode cX3_init 4 = .ok (.aload_n 0, 1) := by decide +kernel
theorem dX3_init_5 : decode cX3_init 5 = .ok (.aload_n 1, 1) := by decide +kernel
theorem dX3_init_6 : decode cX3_init 6 = .ok (.putfield 9, 3) := by decide +kernel
theorem dX3_init_9 : decode cX3_init 9 = .ok (.aload_n 0, 1) := by decide +kernel
theorem dX3_init_10 : decode cX3_init 10 = .ok (.lconst 0, 1) := by decide +kernel
theorem dX3_init_11 : decode cX3_init 11 = .ok (.putfield 15, 3) := by decide +kernel
theorem dX3_init_14 : decode cX3_init 14 = .ok (.return_, 1) := by decide +kernel
def VX3_init_0 (g : jg) (a0 : Nat) (o1 : Option Nat) (h : jh) (k n : Nat) (Q : jq) : Prop := (jt h a0 = 2) ∧ ∀ h2 : jh, h2 = jsr h 64 a0 (o1) → ∀ h4 : jh, h4 = jsl h2 65 a0 (0) → Q (.inl none) h4
set_option maxRecDepth 20000 in
theorem vX3_init_0 {g : jg} {a0 : Nat} {o1 : Option Nat} {h : jh} {k n : Nat} {Q : jq} (hv : VX3_init_0 g a0 o1 h k n Q) : jG g mX3_init 0 [(0, .inr (.inr (some (a0)))), (1, .inr (.inr (o1)))] [] h k n Q := by
  unfold VX3_init_0 at hv
  refine jg_aload_n dX3_init_0 rfl (List.Mem.head _) ?_
  refine jg_objInit dX3_init_1 jsn ol_X3_init oi_i oi_c (by decide) (by decide) ?_
  refine jg_aload_n dX3_init_4 rfl (List.Mem.head _) ?_
  refine jg_aload_n dX3_init_5 rfl (List.Mem.tail _ (List.Mem.head _)) ?_
  obtain ⟨f1, hv⟩ := hv
  obtain ⟨h2, e3⟩ : ∃ z : jh, z = jsr h 64 a0 (o1) := ⟨_, rfl⟩
  replace hv := hv h2 e3
  refine jp_putr dX3_init_6 (jfp.fin fl_RX3_9 (fun q hq => by cases hq; exact ⟨rfl, rfl⟩) rfl) rfl jsn f1 e3 ?_
  refine jg_aload_n dX3_init_9 rfl (List.Mem.head _) ?_
  refine jg_lconst (v := 0) dX3_init_10 (by decide) ?_
  obtain ⟨h4, e5⟩ : ∃ z : jh, z = jsl h2 65 a0 (0) := ⟨_, rfl⟩
  replace hv := hv h4 e5
  refine jp_putl dX3_init_11 (jfp.nf fl_RX3_15 (fun q hq => by cases hq; rfl)) rfl jsn ((congrArg (fun z => jt z a0) e3).trans f1) e5 ?_
  exact jg_vret dX3_init_14 rfl hv
theorem eX3_init {g : jg} {a0 : Nat} {o1 : Option Nat} {h : jh} {mc ms : Nat} {Q : jq} (hv : VX3_init_0 g a0 o1 h mc ms Q) : jM g mX3_init [.inr (.inr (some (a0))), .inr (.inr (o1))] h mc ms Q := jM.of (by decide) (Nat.le_of_ble_eq_true rfl) (lv := [(0, .inr (.inr (some (a0)))), (1, .inr (.inr (o1)))]) rfl (vX3_init_0 hv)
theorem dX3_layAll_0 : decode cX3_layAll 0 = .ok (.aload_n 0, 1) := by decide +kernel
theorem dX3_layAll_1 : decode cX3_layAll 1 = .ok (.lconst 0, 1) := by decide +kernel
theorem dX3_layAll_2 : decode cX3_layAll 2 = .ok (.putfield 15, 3) := by decide +kernel
theorem dX3_layAll_5 : decode cX3_layAll 5 = .ok (.aload_n 0, 1) := by decide +kernel
theorem dX3_layAll_6 : decode cX3_layAll 6 = .ok (.invokevirtual 19, 3) := by decide +kernel
theorem dX3_layAll_9 : decode cX3_layAll 9 = .ok (.aconst_null, 1) := by decide +kernel
theorem dX3_layAll_10 : decode cX3_layAll 10 = .ok (.astore_n 1, 1) := by decide +kernel
theorem dX3_layAll_11 : decode cX3_layAll 11 = .ok (.iconst 1, 1) := by decide +kernel
theorem dX3_layAll_12 : decode cX3_layAll 12 = .ok (.istore_n 2, 1) := by decide +kernel
theorem dX3_layAll_13 : decode cX3_layAll 13 = .ok (.iload_n 2, 1) := by decide +kernel
theorem dX3_layAll_14 : decode cX3_layAll 14 = .ok (.aload_n 0, 1) := by decide +kernel
theorem dX3_layAll_15 : decode cX3_layAll 15 = .ok (.getfield 9, 3) := by decide +kernel
theorem dX3_layAll_18 : decode cX3_layAll 18 = .ok (.getfield 22, 3) := by decide +kernel
theorem dX3_layAll_21 : decode cX3_layAll 21 = .ok (.if_icmp .gt 42, 3) := by decide +kernel
theorem dX3_layAll_24 : decode cX3_layAll 24 = .ok (.aload_n 0, 1) := by decide +kernel
theorem dX3_layAll_25 : decode cX3_layAll 25 = .ok (.getfield 9, 3) := by decide +kernel
theorem dX3_layAll_28 : decode cX3_layAll 28 = .ok (.getfield 28, 3) := by decide +kernel
theorem dX3_layAll_31 : decode cX3_layAll 31 = .ok (.iload_n 2, 1) := by decide +kernel
theorem dX3_layAll_32 : decode cX3_layAll 32 = .ok (.aaload, 1) := by decide +kernel
theorem dX3_layAll_33 : decode cX3_layAll 33 = .ok (.astore_n 3, 1) := by decide +kernel
theorem dX3_layAll_34 : decode cX3_layAll 34 = .ok (.aload_n 3, 1) := by decide +kernel
theorem dX3_layAll_35 : decode cX3_layAll 35 = .ok (.invokevirtual 32, 3) := by decide +kernel
theorem dX3_layAll_38 : decode cX3_layAll 38 = .ok (.ifCond .eq 19, 3) := by decide +kernel
theorem dX3_layAll_41 : decode cX3_layAll 41 = .ok (.aload_n 0, 1) := by decide +kernel
theorem dX3_layAll_42 : decode cX3_layAll 42 = .ok (.aload_n 1, 1) := by decide +kernel
theorem dX3_layAll_43 : decode cX3_layAll 43 = .ok (.aload_n 3, 1) := by decide +kernel
theorem dX3_layAll_44 : decode cX3_layAll 44 = .ok (.getfield 38, 3) := by decide +kernel
theorem dX3_layAll_47 : decode cX3_layAll 47 = .ok (.invokevirtual 42, 3) := by decide +kernel
theorem dX3_layAll_50 : decode cX3_layAll 50 = .ok (.aload_n 0, 1) := by decide +kernel
theorem dX3_layAll_51 : decode cX3_layAll 51 = .ok (.aload_n 3, 1) := by decide +kernel
theorem dX3_layAll_52 : decode cX3_layAll 52 = .ok (.invokevirtual 46, 3) := by decide +kernel
theorem dX3_layAll_55 : decode cX3_layAll 55 = .ok (.aload_n 3, 1) := by decide +kernel
theorem dX3_layAll_56 : decode cX3_layAll 56 = .ok (.astore_n 1, 1) := by decide +kernel
theorem dX3_layAll_57 : decode cX3_layAll 57 = .ok (.iinc 2 1, 3) := by decide +kernel
theorem dX3_layAll_60 : decode cX3_layAll 60 = .ok (.goto (-47), 3) := by decide +kernel
theorem dX3_layAll_63 : decode cX3_layAll 63 = .ok (.aload_n 0, 1) := by decide +kernel
theorem dX3_layAll_64 : decode cX3_layAll 64 = .ok (.aload_n 1, 1) := by decide +kernel
theorem dX3_layAll_65 : decode cX3_layAll 65 = .ok (.aconst_null, 1) := by decide +kernel
theorem dX3_layAll_66 : decode cX3_layAll 66 = .ok (.invokevirtual 42, 3) := by decide +kernel
theorem dX3_layAll_69 : decode cX3_layAll 69 = .ok (.aload_n 0, 1) := by decide +kernel
theorem dX3_layAll_70 : decode cX3_layAll 70 = .ok (.invokevirtual 50, 3) := by decide +kernel
theorem dX3_layAll_73 : decode cX3_layAll 73 = .ok (.aload_n 0, 1) := by decide +kernel
theorem dX3_layAll_74 : decode cX3_layAll 74 = .ok (.invokevirtual 53, 3) := by decide +kernel
theorem dX3_layAll_77 : decode cX3_layAll 77 = .ok (.return_, 1) := by decide +kernel
def VX3_layAll_13 (g : jg) (a0 : Nat) (o1 : Option Nat) (x2 : Int32) (h : jh) (k n : Nat) (Q : jq) : Prop := (jt h a0 = 2) ∧ (¬ (jr h 64 a0) = none) ∧ (jt h (jd (jr h 64 a0)) = 7) ∧ (((ji h 385 (jd (jr h 64 a0))) < (x2) → jM g mX3_finishUpTo [.inr (.inr (some a0)), .inr (.inr (o1)), .inr (.inr (none))] h 0 0 (jkv (fun (h6 : jh) => (jt h6 a0 = 2) ∧ jM g mX3_placeParts [.inr (.inr (some a0))] h6 0 0 (jkv (fun (h9 : jh) => (jt h9 a0 = 2) ∧ jM g mX3_markMoving [.inr (.inr (some a0))] h9 0 0 (jkv (fun (h12 : jh) => Q (.inl none) h12) (fun e h9 => Q (.inr e) h9))) (fun e h9 => Q (.inr e) h9))) (fun e h9 => Q (.inr e) h9))) ∧ (¬ (ji h 385 (jd (jr h 64 a0))) < (x2) → (¬ (jr h 384 (jd (jr h 64 a0))) = none) ∧ (jt h (jd (jr h 384 (jd (jr h 64 a0)))) = 23) ∧ (vp_in (x2) (jn h (jd (jr h 384 (jd (jr h 64 a0)))))) ∧ (¬ (jR h (jd (jr h 384 (jd (jr h 64 a0)))) (x2 : Int32).toNatClampNeg) = none) ∧ (jt h (jd (jR h (jd (jr h 384 (jd (jr h 64 a0)))) (x2 : Int32).toNatClampNeg)) = 1) ∧ jM g mX0_lies [.inr (.inr (some (jd (jR h (jd (jr h 384 (jd (jr h 64 a0)))) (x2 : Int32).toNatClampNeg))))] h 0 0 (jki (fun (r18 : Int32) (h19 : jh) => (((r18) = 0 → jG g mX3_layAll 13 [(0, .inr (.inr (some (a0)))), (1, .inr (.inr (o1))), (2, .inl ((x2) + 1))] [] h19 k n Q) ∧ (¬ (r18) = 0 → (jt h19 (jd (jR h (jd (jr h 384 (jd (jr h 64 a0)))) (x2 : Int32).toNatClampNeg)) = 1) ∧ (jt h19 a0 = 2) ∧ jM g mX3_finishUpTo [.inr (.inr (some a0)), .inr (.inr (o1)), .inr (.inr (jr h19 5 (jd (jR h (jd (jr h 384 (jd (jr h 64 a0)))) (x2 : Int32).toNatClampNeg))))] h19 0 0 (jkv (fun (h24 : jh) => (jt h24 a0 = 2) ∧ jM g mX3_begin [.inr (.inr (some a0)), .inr (.inr (jR h (jd (jr h 384 (jd (jr h 64 a0)))) (x2 : Int32).toNatClampNeg))] h24 0 0 (jkv (fun (h27 : jh) => jG g mX3_layAll 13 [(0, .inr (.inr (some (a0)))), (1, .inr (.inr (jR h (jd (jr h 384 (jd (jr h 64 a0)))) (x2 : Int32).toNatClampNeg))), (2, .inl ((x2) + 1))] [] h27 k n Q) (fun e h9 => Q (.inr e) h9))) (fun e h9 => Q (.inr e) h9))))) (fun e h9 => Q (.inr e) h9))))
set_option maxRecDepth 20000 in
theorem vX3_layAll_13 {g : jg} {a0 : Nat} {o1 : Option Nat} {x2 : Int32} {h : jh} {k n : Nat} {Q : jq} (hv : VX3_layAll_13 g a0 o1 x2 h k n Q) : jG g mX3_layAll 13 [(0, .inr (.inr (some (a0)))), (1, .inr (.inr (o1))), (2, .inl (x2))] [] h k n Q := by
  unfold VX3_layAll_13 at hv
  refine jg_iload_n dX3_layAll_13 rfl (List.Mem.tail _ (List.Mem.tail _ (List.Mem.head _))) ?_
  refine jg_aload_n dX3_layAll_14 rfl (List.Mem.head _) ?_
  obtain ⟨f1, hv⟩ := hv
  refine jg_getr dX3_layAll_15 fl_RX3_9 rfl jsn f1 ?_
  obtain ⟨f2, hv⟩ := hv
  obtain ⟨f3, hv⟩ := hv
  refine jg_geti dX3_layAll_18 fl_RX3_22 rfl f2 f3 ?_
  refine jg_icmp_gt (tgt := 63) dX3_layAll_21 (by decide) (fun c4 => ?_) (fun c4 => ?_)
  · replace hv := hv.1 c4
    refine jg_aload_n dX3_layAll_63 rfl (List.Mem.head _) ?_
    refine jg_aload_n dX3_layAll_64 rfl (List.Mem.tail _ (List.Mem.head _)) ?_
    refine jg_null dX3_layAll_65 ?_
    refine jp_callV mX3_finishUpTo [.inr (.inr (o1)), .inr (.inr (none))] [] dX3_layAll_66 rfl cl_RX3_42 ⟨⟨by decide, by decide⟩, by decide⟩ jsn f1 (Nat.zero_le _) (Nat.zero_le _) (jM.mono (jkv_k (fun h6 hv => ?_)) hv)
    refine jg_aload_n dX3_layAll_69 rfl (List.Mem.head _) ?_
    obtain ⟨f7, hv⟩ := hv
    refine jp_callV mX3_placeParts [] [] dX3_layAll_70 rfl cl_RX3_50 ⟨⟨by decide, by decide⟩, by decide⟩ jsn f7 (Nat.zero_le _) (Nat.zero_le _) (jM.mono (jkv_k (fun h9 hv => ?_)) hv)
    refine jg_aload_n dX3_layAll_73 rfl (List.Mem.head _) ?_
    obtain ⟨f10, hv⟩ := hv
    refine jp_callV mX3_markMoving [] [] dX3_layAll_74 rfl cl_RX3_53 ⟨⟨by decide, by decide⟩, by decide⟩ jsn f10 (Nat.zero_le _) (Nat.zero_le _) (jM.mono (jkv_k (fun h12 hv => ?_)) hv)
    exact jg_vret dX3_layAll_77 rfl hv
  · replace hv := hv.2 c4
    refine jg_aload_n dX3_layAll_24 rfl (List.Mem.head _) ?_
    refine jg_getr dX3_layAll_25 fl_RX3_9 rfl jsn f1 ?_
    refine jg_getr dX3_layAll_28 fl_RX3_28 rfl f2 f3 ?_
    refine jg_iload_n dX3_layAll_31 rfl (List.Mem.tail _ (List.Mem.tail _ (List.Mem.head _))) ?_
    obtain ⟨f13, hv⟩ := hv
    obtain ⟨f14, hv⟩ := hv
    obtain ⟨f15, hv⟩ := hv
    refine jg_aald dX3_layAll_32 f13 f14 f15 ?_
    refine jg_astore_n (lv' := [(3, .inr (.inr (jR h (jd (jr h 384 (jd (jr h 64 a0)))) (x2 : Int32).toNatClampNeg))), (0, .inr (.inr (some (a0)))), (1, .inr (.inr (o1))), (2, .inl (x2))]) dX3_layAll_33 rfl (by decide) rfl ?_
    refine jg_aload_n dX3_layAll_34 rfl (List.Mem.head _) ?_
    obtain ⟨f16, hv⟩ := hv
    obtain ⟨f17, hv⟩ := hv
    refine jp_callV mX0_lies [] [] dX3_layAll_35 rfl cl_RX3_32 ⟨⟨by decide, by decide⟩, by decide⟩ f16 f17 (Nat.zero_le _) (Nat.zero_le _) (jM.mono (jki_k (fun r18 h19 hv => ?_)) hv)
    refine jg_if_eq (tgt := 57) dX3_layAll_38 (by decide) (fun c20 => ?_) (fun c20 => ?_)
    · replace hv := hv.1 c20
      refine jg_iinc (v := (x2) + 1) (lv' := [(2, .inl ((x2) + 1)), (3, .inr (.inr (jR h (jd (jr h 384 (jd (jr h 64 a0)))) (x2 : Int32).toNatClampNeg))), (0, .inr (.inr (some (a0)))), (1, .inr (.inr (o1)))]) dX3_layAll_57 (List.Mem.tail _ (List.Mem.tail _ (List.Mem.tail _ (List.Mem.head _)))) rfl (by decide) rfl ?_
      refine jg_goto (tgt := 13) dX3_layAll_60 (by decide) ?_
      refine jG.sub (lv' := [(0, .inr (.inr (some (a0)))), (1, .inr (.inr (o1))), (2, .inl ((x2) + 1))]) (by simp) ?_
      exact hv
    · replace hv := hv.2 c20
      refine jg_aload_n dX3_layAll_41 rfl (List.Mem.tail _ (List.Mem.head _)) ?_
      refine jg_aload_n dX3_layAll_42 rfl (List.Mem.tail _ (List.Mem.tail _ (List.Mem.head _))) ?_
      refine jg_aload_n dX3_layAll_43 rfl (List.Mem.head _) ?_
      obtain ⟨f21, hv⟩ := hv
      refine jg_getr dX3_layAll_44 fl_RX3_38 rfl f16 f21 ?_
      obtain ⟨f22, hv⟩ := hv
      refine jp_callV mX3_finishUpTo [.inr (.inr (o1)), .inr (.inr (jr h19 5 (jd (jR h (jd (jr h 384 (jd (jr h 64 a0)))) (x2 : Int32).toNatClampNeg))))] [] dX3_layAll_47 rfl cl_RX3_42 ⟨⟨by decide, by decide⟩, by decide⟩ jsn f22 (Nat.zero_le _) (Nat.zero_le _) (jM.mono (jkv_k (fun h24 hv => ?_)) hv)
      refine jg_aload_n dX3_layAll_50 rfl (List.Mem.tail _ (List.Mem.head _)) ?_
      refine jg_aload_n dX3_layAll_51 rfl (List.Mem.head _) ?_
      obtain ⟨f25, hv⟩ := hv
      refine jp_callV mX3_begin [.inr (.inr (jR h (jd (jr h 384 (jd (jr h 64 a0)))) (x2 : Int32).toNatClampNeg))] [] dX3_layAll_52 rfl cl_RX3_46 ⟨⟨by decide, by decide⟩, by decide⟩ jsn f25 (Nat.zero_le _) (Nat.zero_le _) (jM.mono (jkv_k (fun h27 hv => ?_)) hv)
      refine jg_aload_n dX3_layAll_55 rfl (List.Mem.head _) ?_
      refine jg_astore_n (lv' := [(1, .inr (.inr (jR h (jd (jr h 384 (jd (jr h 64 a0)))) (x2 : Int32).toNatClampNeg))), (3, .inr (.inr (jR h (jd (jr h 384 (jd (jr h 64 a0)))) (x2 : Int32).toNatClampNeg))), (0, .inr (.inr (some (a0)))), (2, .inl (x2))]) dX3_layAll_56 rfl (by decide) rfl ?_
      refine jg_iinc (v := (x2) + 1) (lv' := [(2, .inl ((x2) + 1)), (1, .inr (.inr (jR h (jd (jr h 384 (jd (jr h 64 a0)))) (x2 : Int32).toNatClampNeg))), (3, .inr (.inr (jR h (jd (jr h 384 (jd (jr h 64 a0)))) (x2 : Int32).toNatClampNeg))), (0, .inr (.inr (some (a0))))]) dX3_layAll_57 (List.Mem.tail _ (List.Mem.tail _ (List.Mem.tail _ (List.Mem.head _)))) rfl (by decide) rfl ?_
      refine jg_goto (tgt := 13) dX3_layAll_60 (by decide) ?_
      refine jG.sub (lv' := [(0, .inr (.inr (some (a0)))), (1, .inr (.inr (jR h (jd (jr h 384 (jd (jr h 64 a0)))) (x2 : Int32).toNatClampNeg))), (2, .inl ((x2) + 1))]) (by simp) ?_
      exact hv
def VX3_layAll_0 (g : jg) (a0 : Nat) (h : jh) (k n : Nat) (Q : jq) : Prop := (jt h a0 = 2) ∧ ∀ h29 : jh, h29 = jsl h 65 a0 (0) → jM g mX3_gatherUnits [.inr (.inr (some a0))] h29 0 0 (jkv (fun (h32 : jh) => jG g mX3_layAll 13 [(0, .inr (.inr (some (a0)))), (1, .inr (.inr (none))), (2, .inl (1))] [] h32 k n Q) (fun e h9 => Q (.inr e) h9))
set_option maxRecDepth 20000 in
theorem vX3_layAll_0 {g : jg} {a0 : Nat} {h : jh} {k n : Nat} {Q : jq} (hv : VX3_layAll_0 g a0 h k n Q) : jG g mX3_layAll 0 [(0, .inr (.inr (some (a0))))] [] h k n Q := by
  unfold VX3_layAll_0 at hv
  refine jg_aload_n dX3_layAll_0 rfl (List.Mem.head _) ?_
  refine jg_lconst (v := 0) dX3_layAll_1 (by decide) ?_
  obtain ⟨f28, hv⟩ := hv
  obtain ⟨h29, e30⟩ : ∃ z : jh, z = jsl h 65 a0 (0) := ⟨_, rfl⟩
  replace hv := hv h29 e30
  refine jp_putl dX3_layAll_2 (jfp.nf fl_RX3_15 (fun q hq => by cases hq; rfl)) rfl jsn f28 e30 ?_
  refine jg_aload_n dX3_layAll_5 rfl (List.Mem.head _) ?_
  refine jp_callV mX3_gatherUnits [] [] dX3_layAll_6 rfl cl_RX3_19 ⟨⟨by decide, by decide⟩, by decide⟩ jsn ((congrArg (fun z => jt z a0) e30).trans f28) (Nat.zero_le _) (Nat.zero_le _) (jM.mono (jkv_k (fun h32 hv => ?_)) hv)
  refine jg_null dX3_layAll_9 ?_
  refine jg_astore_n (lv' := [(1, .inr (.inr (none))), (0, .inr (.inr (some (a0))))]) dX3_layAll_10 rfl (by decide) rfl ?_
  refine jg_iconst (v := 1) dX3_layAll_11 (by decide) ?_
  refine jg_istore_n (lv' := [(2, .inl (1)), (1, .inr (.inr (none))), (0, .inr (.inr (some (a0))))]) dX3_layAll_12 rfl (by decide) rfl ?_
  refine jG.sub (lv' := [(0, .inr (.inr (some (a0)))), (1, .inr (.inr (none))), (2, .inl (1))]) (by simp) ?_
  exact hv
theorem eX3_layAll {g : jg} {a0 : Nat} {h : jh} {mc ms : Nat} {Q : jq} (hv : VX3_layAll_0 g a0 h mc ms Q) : jM g mX3_layAll [.inr (.inr (some (a0)))] h mc ms Q := jM.of (by decide) (Nat.le_of_ble_eq_true rfl) (lv := [(0, .inr (.inr (some (a0))))]) rfl (vX3_layAll_0 hv)
theorem dX3_gatherUnits_0 : decode cX3_gatherUnits 0 = .ok (.aload_n 0, 1) := by decide +kernel
theorem dX3_gatherUnits_1 : decode cX3_gatherUnits 1 = .ok (.getfield 9, 3) := by decide +kernel
theorem dX3_gatherUnits_4 : decode cX3_gatherUnits 4 = .ok (.getfield 22, 3) := by decide +kernel
theorem dX3_gatherUnits_7 : decode cX3_gatherUnits 7 = .ok (.istore_n 1, 1) := by decide +kernel
theorem dX3_gatherUnits_8 : decode cX3_gatherUnits 8 = .ok (.iload_n 1, 1) := by decide +kernel
theorem dX3_gatherUnits_9 : decode cX3_gatherUnits 9 = .ok (.iconst 1, 1) := by decide +kernel
theorem dX3_gatherUnits_10 : decode cX3_gatherUnits 10 = .ok (.if_icmp .lt 32, 3) := by decide +kernel
theorem dX3_gatherUnits_13 : decode cX3_gatherUnits 13 = .ok (.aload_n 0, 1) := by decide +kernel
theorem dX3_gatherUnits_14 : decode cX3_gatherUnits 14 = .ok (.getfield 9, 3) := by decide +kernel
theorem dX3_gatherUnits_17 : decode cX3_gatherUnits 17 = .ok (.getfield 28, 3) := by decide +kernel
theorem dX3_gatherUnits_20 : decode cX3_gatherUnits 20 = .ok (.iload_n 1, 1) := by decide +kernel
theorem dX3_gatherUnits_21 : decode cX3_gatherUnits 21 = .ok (.aaload, 1) := by decide +kernel
theorem dX3_gatherUnits_22 : decode cX3_gatherUnits 22 = .ok (.getfield 56, 3) := by decide +kernel
theorem dX3_gatherUnits_25 : decode cX3_gatherUnits 25 = .ok (.astore_n 2, 1) := by decide +kernel
theorem dX3_gatherUnits_26 : decode cX3_gatherUnits 26 = .ok (.aload_n 2, 1) := by decide +kernel
theorem dX3_gatherUnits_27 : decode cX3_gatherUnits 27 = .ok (.iconst 1, 1) := by decide +kernel
theorem dX3_gatherUnits_28 : decode cX3_gatherUnits 28 = .ok (.putfield 60, 3) := by decide +kernel
theorem dX3_gatherUnits_31 : decode cX3_gatherUnits 31 = .ok (.aload_n 2, 1) := by decide +kernel
theorem dX3_gatherUnits_32 : decode cX3_gatherUnits 32 = .ok (.aconst_null, 1) := by decide +kernel
theorem dX3_gatherUnits_33 : decode cX3_gatherUnits 33 = .ok (.putfield 65, 3) := by decide +kernel
theorem dX3_gatherUnits_36 : decode cX3_gatherUnits 36 = .ok (.iinc 1 (-1), 3) := by decide +kernel
theorem dX3_gatherUnits_39 : decode cX3_gatherUnits 39 = .ok (.goto (-31), 3) := by decide +kernel
theorem dX3_gatherUnits_42 : decode cX3_gatherUnits 42 = .ok (.aload_n 0, 1) := by decide +kernel
theorem dX3_gatherUnits_43 : decode cX3_gatherUnits 43 = .ok (.getfield 9, 3) := by decide +kernel
theorem dX3_gatherUnits_46 : decode cX3_gatherUnits 46 = .ok (.getfield 22, 3) := by decide +kernel
theorem dX3_gatherUnits_49 : decode cX3_gatherUnits 49 = .ok (.istore_n 1, 1) := by decide +kernel
theorem dX3_gatherUnits_50 : decode cX3_gatherUnits 50 = .ok (.iload_n 1, 1) := by decide +kernel
theorem dX3_gatherUnits_51 : decode cX3_gatherUnits 51 = .ok (.iconst 1, 1) := by decide +kernel
theorem dX3_gatherUnits_52 : decode cX3_gatherUnits 52 = .ok (.if_icmp .lt 74, 3) := by decide +kernel
theorem dX3_gatherUnits_55 : decode cX3_gatherUnits 55 = .ok (.aload_n 0, 1) := by decide +kernel
theorem dX3_gatherUnits_56 : decode cX3_gatherUnits 56 = .ok (.getfield 9, 3) := by decide +kernel
theorem dX3_gatherUnits_59 : decode cX3_gatherUnits 59 = .ok (.getfield 28, 3) := by decide +kernel
theorem dX3_gatherUnits_62 : decode cX3_gatherUnits 62 = .ok (.iload_n 1, 1) := by decide +kernel
theorem dX3_gatherUnits_63 : decode cX3_gatherUnits 63 = .ok (.aaload, 1) := by decide +kernel
theorem dX3_gatherUnits_64 : decode cX3_gatherUnits 64 = .ok (.astore_n 2, 1) := by decide +kernel
theorem dX3_gatherUnits_65 : decode cX3_gatherUnits 65 = .ok (.aload_n 2, 1) := by decide +kernel
theorem dX3_gatherUnits_66 : decode cX3_gatherUnits 66 = .ok (.getfield 69, 3) := by decide +kernel
theorem dX3_gatherUnits_69 : decode cX3_gatherUnits 69 = .ok (.ifCond .eq 14, 3) := by decide +kernel
theorem dX3_gatherUnits_72 : decode cX3_gatherUnits 72 = .ok (.aload_n 2, 1) := by decide +kernel
theorem dX3_gatherUnits_73 : decode cX3_gatherUnits 73 = .ok (.getfield 56, 3) := by decide +kernel
theorem dX3_gatherUnits_76 : decode cX3_gatherUnits 76 = .ok (.aload_n 2, 1) := by decide +kernel
theorem dX3_gatherUnits_77 : decode cX3_gatherUnits 77 = .ok (.getfield 73, 3) := by decide +kernel
theorem dX3_gatherUnits_80 : decode cX3_gatherUnits 80 = .ok (.putfield 60, 3) := by decide +kernel
theorem dX3_gatherUnits_83 : decode cX3_gatherUnits 83 = .ok (.aload_n 2, 1) := by decide +kernel
theorem dX3_gatherUnits_84 : decode cX3_gatherUnits 84 = .ok (.getfield 38, 3) := by decide +kernel
theorem dX3_gatherUnits_87 : decode cX3_gatherUnits 87 = .ok (.ifnull 33, 3) := by decide +kernel
theorem dX3_gatherUnits_90 : decode cX3_gatherUnits 90 = .ok (.aload_n 2, 1) := by decide +kernel
theorem dX3_gatherUnits_91 : decode cX3_gatherUnits 91 = .ok (.getfield 38, 3) := by decide +kernel
theorem dX3_gatherUnits_94 : decode cX3_gatherUnits 94 = .ok (.getfield 56, 3) := by decide +kernel
theorem dX3_gatherUnits_97 : decode cX3_gatherUnits 97 = .ok (.aload_n 2, 1) := by decide +kernel
theorem dX3_gatherUnits_98 : decode cX3_gatherUnits 98 = .ok (.getfield 38, 3) := by decide +kernel
theorem dX3_gatherUnits_101 : decode cX3_gatherUnits 101 = .ok (.getfield 56, 3) := by decide +kernel
theorem dX3_gatherUnits_104 : decode cX3_gatherUnits 104 = .ok (.getfield 60, 3) := by decide +kernel
theorem dX3_gatherUnits_107 : decode cX3_gatherUnits 107 = .ok (.aload_n 2, 1) := by decide +kernel
theorem dX3_gatherUnits_108 : decode cX3_gatherUnits 108 = .ok (.getfield 56, 3) := by decide +kernel
theorem dX3_gatherUnits_111 : decode cX3_gatherUnits 111 = .ok (.getfield 60, 3) := by decide +kernel
theorem dX3_gatherUnits_114 : decode cX3_gatherUnits 114 = .ok (.invokestatic 76, 3) := by decide +kernel
theorem dX3_gatherUnits_117 : decode cX3_gatherUnits 117 = .ok (.putfield 60, 3) := by decide +kernel
theorem dX3_gatherUnits_120 : decode cX3_gatherUnits 120 = .ok (.iinc 1 (-1), 3) := by decide +kernel
theorem dX3_gatherUnits_123 : decode cX3_gatherUnits 123 = .ok (.goto (-73), 3) := by decide +kernel
theorem dX3_gatherUnits_126 : decode cX3_gatherUnits 126 = .ok (.return_, 1) := by decide +kernel
def VX3_gatherUnits_83 (g : jg) (a0 : Nat) (x1 : Int32) (o2 : Option Nat) (h : jh) (k n : Nat) (Q : jq) : Prop := (¬ (o2) = none) ∧ (jt h (jd (o2)) = 1) ∧ (((jr h 5 (jd (o2))) = none → jG g mX3_gatherUnits 50 [(0, .inr (.inr (some (a0)))), (1, .inl ((x1) + (-1)))] [] h k n Q) ∧ (¬ (jr h 5 (jd (o2))) = none → (jt h (jd (jr h 5 (jd (o2)))) = 1) ∧ (¬ (jr h 7 (jd (jr h 5 (jd (o2))))) = none) ∧ (jt h (jd (jr h 7 (jd (jr h 5 (jd (o2)))))) = 4) ∧ (¬ (jr h 7 (jd (o2))) = none) ∧ (jt h (jd (jr h 7 (jd (o2)))) = 4) ∧ ∀ h9 : jh, h9 = jsi h 194 (jd (jr h 7 (jd (jr h 5 (jd (o2)))))) (if (ji h 194 (jd (jr h 7 (jd (jr h 5 (jd (o2))))))) < (ji h 194 (jd (jr h 7 (jd (o2))))) then (ji h 194 (jd (jr h 7 (jd (o2))))) else (ji h 194 (jd (jr h 7 (jd (jr h 5 (jd (o2)))))))) → jG g mX3_gatherUnits 50 [(0, .inr (.inr (some (a0)))), (1, .inl ((x1) + (-1)))] [] h9 k n Q))
set_option maxRecDepth 20000 in
theorem vX3_gatherUnits_83 {g : jg} {a0 : Nat} {x1 : Int32} {o2 : Option Nat} {h : jh} {k n : Nat} {Q : jq} (hv : VX3_gatherUnits_83 g a0 x1 o2 h k n Q) : jG g mX3_gatherUnits 83 [(0, .inr (.inr (some (a0)))), (1, .inl (x1)), (2, .inr (.inr (o2)))] [] h k n Q := by
  unfold VX3_gatherUnits_83 at hv
  refine jg_aload_n dX3_gatherUnits_83 rfl (List.Mem.tail _ (List.Mem.tail _ (List.Mem.head _))) ?_
  obtain ⟨f1, hv⟩ := hv
  obtain ⟨f2, hv⟩ := hv
  refine jg_getr dX3_gatherUnits_84 fl_RX3_38 rfl f1 f2 ?_
  refine jg_ifnull (tgt := 120) dX3_gatherUnits_87 (by decide) (fun c3 => ?_) (fun c3 => ?_)
  · replace hv := hv.1 c3
    refine jg_iinc (v := (x1) + (-1)) (lv' := [(1, .inl ((x1) + (-1))), (0, .inr (.inr (some (a0)))), (2, .inr (.inr (o2)))]) dX3_gatherUnits_120 (List.Mem.tail _ (List.Mem.head _)) rfl (by decide) rfl ?_
    refine jg_goto (tgt := 50) dX3_gatherUnits_123 (by decide) ?_
    refine jG.sub (lv' := [(0, .inr (.inr (some (a0)))), (1, .inl ((x1) + (-1)))]) (by simp) ?_
    exact hv
  · replace hv := hv.2 c3
    refine jg_aload_n dX3_gatherUnits_90 rfl (List.Mem.tail _ (List.Mem.tail _ (List.Mem.head _))) ?_
    refine jg_getr dX3_gatherUnits_91 fl_RX3_38 rfl f1 f2 ?_
    obtain ⟨f4, hv⟩ := hv
    refine jg_getr dX3_gatherUnits_94 fl_RX3_56 rfl c3 f4 ?_
    refine jg_aload_n dX3_gatherUnits_97 rfl (List.Mem.tail _ (List.Mem.tail _ (List.Mem.head _))) ?_
    refine jg_getr dX3_gatherUnits_98 fl_RX3_38 rfl f1 f2 ?_
    refine jg_getr dX3_gatherUnits_101 fl_RX3_56 rfl c3 f4 ?_
    obtain ⟨f5, hv⟩ := hv
    obtain ⟨f6, hv⟩ := hv
    refine jg_geti dX3_gatherUnits_104 fl_RX3_60 rfl f5 f6 ?_
    refine jg_aload_n dX3_gatherUnits_107 rfl (List.Mem.tail _ (List.Mem.tail _ (List.Mem.head _))) ?_
    refine jg_getr dX3_gatherUnits_108 fl_RX3_56 rfl f1 f2 ?_
    obtain ⟨f7, hv⟩ := hv
    obtain ⟨f8, hv⟩ := hv
    refine jg_geti dX3_gatherUnits_111 fl_RX3_60 rfl f7 f8 ?_
    refine jg_mmax dX3_gatherUnits_114 ma_RX3_76 ma_max1 ma_0 ma_max2 (by decide) (jcat_le _ (Nat.le_of_ble_eq_true rfl)) (by decide) ?_
    obtain ⟨h9, e10⟩ : ∃ z : jh, z = jsi h 194 (jd (jr h 7 (jd (jr h 5 (jd (o2)))))) (if (ji h 194 (jd (jr h 7 (jd (jr h 5 (jd (o2))))))) < (ji h 194 (jd (jr h 7 (jd (o2))))) then (ji h 194 (jd (jr h 7 (jd (o2))))) else (ji h 194 (jd (jr h 7 (jd (jr h 5 (jd (o2)))))))) := ⟨_, rfl⟩
    replace hv := hv h9 e10
    refine jp_puti dX3_gatherUnits_117 (jfp.nf fl_RX3_60 (fun q hq => by cases hq; rfl)) rfl f5 f6 e10 ?_
    refine jg_iinc (v := (x1) + (-1)) (lv' := [(1, .inl ((x1) + (-1))), (0, .inr (.inr (some (a0)))), (2, .inr (.inr (o2)))]) dX3_gatherUnits_120 (List.Mem.tail _ (List.Mem.head _)) rfl (by decide) rfl ?_
    refine jg_goto (tgt := 50) dX3_gatherUnits_123 (by decide) ?_
    refine jG.sub (lv' := [(0, .inr (.inr (some (a0)))), (1, .inl ((x1) + (-1)))]) (by simp) ?_
    exact hv
def VX3_gatherUnits_50 (g : jg) (a0 : Nat) (x1 : Int32) (h : jh) (k n : Nat) (Q : jq) : Prop := (((x1) < (1) → Q (.inl none) h) ∧ (¬ (x1) < (1) → (jt h a0 = 2) ∧ (¬ (jr h 64 a0) = none) ∧ (jt h (jd (jr h 64 a0)) = 7) ∧ (¬ (jr h 384 (jd (jr h 64 a0))) = none) ∧ (jt h (jd (jr h 384 (jd (jr h 64 a0)))) = 23) ∧ (vp_in (x1) (jn h (jd (jr h 384 (jd (jr h 64 a0)))))) ∧ (¬ (jR h (jd (jr h 384 (jd (jr h 64 a0)))) (x1 : Int32).toNatClampNeg) = none) ∧ (jt h (jd (jR h (jd (jr h 384 (jd (jr h 64 a0)))) (x1 : Int32).toNatClampNeg)) = 1) ∧ (((ji h 11 (jd (jR h (jd (jr h 384 (jd (jr h 64 a0)))) (x1 : Int32).toNatClampNeg))) = 0 → VX3_gatherUnits_83 g (a0) (x1) (jR h (jd (jr h 384 (jd (jr h 64 a0)))) (x1 : Int32).toNatClampNeg) h k n Q) ∧ (¬ (ji h 11 (jd (jR h (jd (jr h 384 (jd (jr h 64 a0)))) (x1 : Int32).toNatClampNeg))) = 0 → (¬ (jr h 7 (jd (jR h (jd (jr h 384 (jd (jr h 64 a0)))) (x1 : Int32).toNatClampNeg))) = none) ∧ (jt h (jd (jr h 7 (jd (jR h (jd (jr h 384 (jd (jr h 64 a0)))) (x1 : Int32).toNatClampNeg)))) = 4) ∧ ∀ h23 : jh, h23 = jsi h 194 (jd (jr h 7 (jd (jR h (jd (jr h 384 (jd (jr h 64 a0)))) (x1 : Int32).toNatClampNeg)))) (ji h 4 (jd (jR h (jd (jr h 384 (jd (jr h 64 a0)))) (x1 : Int32).toNatClampNeg))) → VX3_gatherUnits_83 g (a0) (x1) (jR h (jd (jr h 384 (jd (jr h 64 a0)))) (x1 : Int32).toNatClampNeg) h23 k n Q))))
set_option maxRecDepth 20000 in
theorem vX3_gatherUnits_50 {g : jg} {a0 : Nat} {x1 : Int32} {h : jh} {k n : Nat} {Q : jq} (hv : VX3_gatherUnits_50 g a0 x1 h k n Q) : jG g mX3_gatherUnits 50 [(0, .inr (.inr (some (a0)))), (1, .inl (x1))] [] h k n Q := by
  unfold VX3_gatherUnits_50 at hv
  refine jg_iload_n dX3_gatherUnits_50 rfl (List.Mem.tail _ (List.Mem.head _)) ?_
  refine jg_iconst (v := 1) dX3_gatherUnits_51 (by decide) ?_
  refine jg_icmp_lt (tgt := 126) dX3_gatherUnits_52 (by decide) (fun c11 => ?_) (fun c11 => ?_)
  · replace hv := hv.1 c11
    exact jg_vret dX3_gatherUnits_126 rfl hv
  · replace hv := hv.2 c11
    refine jg_aload_n dX3_gatherUnits_55 rfl (List.Mem.head _) ?_
    obtain ⟨f12, hv⟩ := hv
    refine jg_getr dX3_gatherUnits_56 fl_RX3_9 rfl jsn f12 ?_
    obtain ⟨f13, hv⟩ := hv
    obtain ⟨f14, hv⟩ := hv
    refine jg_getr dX3_gatherUnits_59 fl_RX3_28 rfl f13 f14 ?_
    refine jg_iload_n dX3_gatherUnits_62 rfl (List.Mem.tail _ (List.Mem.head _)) ?_
    obtain ⟨f15, hv⟩ := hv
    obtain ⟨f16, hv⟩ := hv
    obtain ⟨f17, hv⟩ := hv
    refine jg_aald dX3_gatherUnits_63 f15 f16 f17 ?_
    refine jg_astore_n (lv' := [(2, .inr (.inr (jR h (jd (jr h 384 (jd (jr h 64 a0)))) (x1 : Int32).toNatClampNeg))), (0, .inr (.inr (some (a0)))), (1, .inl (x1))]) dX3_gatherUnits_64 rfl (by decide) rfl ?_
    refine jg_aload_n dX3_gatherUnits_65 rfl (List.Mem.head _) ?_
    obtain ⟨f18, hv⟩ := hv
    obtain ⟨f19, hv⟩ := hv
    refine jg_geti dX3_gatherUnits_66 fl_RX3_69 rfl f18 f19 ?_
    refine jg_if_eq (tgt := 83) dX3_gatherUnits_69 (by decide) (fun c20 => ?_) (fun c20 => ?_)
    · replace hv := hv.1 c20
      refine jG.sub (lv' := [(0, .inr (.inr (some (a0)))), (1, .inl (x1)), (2, .inr (.inr (jR h (jd (jr h 384 (jd (jr h 64 a0)))) (x1 : Int32).toNatClampNeg)))]) (by simp) ?_
      exact vX3_gatherUnits_83 hv
    · replace hv := hv.2 c20
      refine jg_aload_n dX3_gatherUnits_72 rfl (List.Mem.head _) ?_
      refine jg_getr dX3_gatherUnits_73 fl_RX3_56 rfl f18 f19 ?_
      refine jg_aload_n dX3_gatherUnits_76 rfl (List.Mem.head _) ?_
      refine jg_geti dX3_gatherUnits_77 fl_RX3_73 rfl f18 f19 ?_
      obtain ⟨f21, hv⟩ := hv
      obtain ⟨f22, hv⟩ := hv
      obtain ⟨h23, e24⟩ : ∃ z : jh, z = jsi h 194 (jd (jr h 7 (jd (jR h (jd (jr h 384 (jd (jr h 64 a0)))) (x1 : Int32).toNatClampNeg)))) (ji h 4 (jd (jR h (jd (jr h 384 (jd (jr h 64 a0)))) (x1 : Int32).toNatClampNeg))) := ⟨_, rfl⟩
      replace hv := hv h23 e24
      refine jp_puti dX3_gatherUnits_80 (jfp.nf fl_RX3_60 (fun q hq => by cases hq; rfl)) rfl f21 f22 e24 ?_
      refine jG.sub (lv' := [(0, .inr (.inr (some (a0)))), (1, .inl (x1)), (2, .inr (.inr (jR h (jd (jr h 384 (jd (jr h 64 a0)))) (x1 : Int32).toNatClampNeg)))]) (by simp) ?_
      exact vX3_gatherUnits_83 hv
def VX3_gatherUnits_8 (g : jg) (a0 : Nat) (x1 : Int32) (h : jh) (k n : Nat) (Q : jq) : Prop := (((x1) < (1) → (jt h a0 = 2) ∧ (¬ (jr h 64 a0) = none) ∧ (jt h (jd (jr h 64 a0)) = 7) ∧ jG g mX3_gatherUnits 50 [(0, .inr (.inr (some (a0)))), (1, .inl (ji h 385 (jd (jr h 64 a0))))] [] h k n Q) ∧ (¬ (x1) < (1) → (jt h a0 = 2) ∧ (¬ (jr h 64 a0) = none) ∧ (jt h (jd (jr h 64 a0)) = 7) ∧ (¬ (jr h 384 (jd (jr h 64 a0))) = none) ∧ (jt h (jd (jr h 384 (jd (jr h 64 a0)))) = 23) ∧ (vp_in (x1) (jn h (jd (jr h 384 (jd (jr h 64 a0)))))) ∧ (¬ (jR h (jd (jr h 384 (jd (jr h 64 a0)))) (x1 : Int32).toNatClampNeg) = none) ∧ (jt h (jd (jR h (jd (jr h 384 (jd (jr h 64 a0)))) (x1 : Int32).toNatClampNeg)) = 1) ∧ (¬ (jr h 7 (jd (jR h (jd (jr h 384 (jd (jr h 64 a0)))) (x1 : Int32).toNatClampNeg))) = none) ∧ (jt h (jd (jr h 7 (jd (jR h (jd (jr h 384 (jd (jr h 64 a0)))) (x1 : Int32).toNatClampNeg)))) = 4) ∧ ∀ h39 : jh, h39 = jsi h 194 (jd (jr h 7 (jd (jR h (jd (jr h 384 (jd (jr h 64 a0)))) (x1 : Int32).toNatClampNeg)))) (1) → ∀ h41 : jh, h41 = jsr h39 197 (jd (jr h 7 (jd (jR h (jd (jr h 384 (jd (jr h 64 a0)))) (x1 : Int32).toNatClampNeg)))) (none) → jG g mX3_gatherUnits 8 [(0, .inr (.inr (some (a0)))), (1, .inl ((x1) + (-1)))] [] h41 k n Q))
set_option maxRecDepth 20000 in
theorem vX3_gatherUnits_8 {g : jg} {a0 : Nat} {x1 : Int32} {h : jh} {k n : Nat} {Q : jq} (hv : VX3_gatherUnits_8 g a0 x1 h k n Q) : jG g mX3_gatherUnits 8 [(0, .inr (.inr (some (a0)))), (1, .inl (x1))] [] h k n Q := by
  unfold VX3_gatherUnits_8 at hv
  refine jg_iload_n dX3_gatherUnits_8 rfl (List.Mem.tail _ (List.Mem.head _)) ?_
  refine jg_iconst (v := 1) dX3_gatherUnits_9 (by decide) ?_
  refine jg_icmp_lt (tgt := 42) dX3_gatherUnits_10 (by decide) (fun c25 => ?_) (fun c25 => ?_)
  · replace hv := hv.1 c25
    refine jg_aload_n dX3_gatherUnits_42 rfl (List.Mem.head _) ?_
    obtain ⟨f26, hv⟩ := hv
    refine jg_getr dX3_gatherUnits_43 fl_RX3_9 rfl jsn f26 ?_
    obtain ⟨f27, hv⟩ := hv
    obtain ⟨f28, hv⟩ := hv
    refine jg_geti dX3_gatherUnits_46 fl_RX3_22 rfl f27 f28 ?_
    refine jg_istore_n (lv' := [(1, .inl (ji h 385 (jd (jr h 64 a0)))), (0, .inr (.inr (some (a0))))]) dX3_gatherUnits_49 rfl (by decide) rfl ?_
    refine jG.sub (lv' := [(0, .inr (.inr (some (a0)))), (1, .inl (ji h 385 (jd (jr h 64 a0))))]) (by simp) ?_
    exact hv
  · replace hv := hv.2 c25
    refine jg_aload_n dX3_gatherUnits_13 rfl (List.Mem.head _) ?_
    obtain ⟨f29, hv⟩ := hv
    refine jg_getr dX3_gatherUnits_14 fl_RX3_9 rfl jsn f29 ?_
    obtain ⟨f30, hv⟩ := hv
    obtain ⟨f31, hv⟩ := hv
    refine jg_getr dX3_gatherUnits_17 fl_RX3_28 rfl f30 f31 ?_
    refine jg_iload_n dX3_gatherUnits_20 rfl (List.Mem.tail _ (List.Mem.head _)) ?_
    obtain ⟨f32, hv⟩ := hv
    obtain ⟨f33, hv⟩ := hv
    obtain ⟨f34, hv⟩ := hv
    refine jg_aald dX3_gatherUnits_21 f32 f33 f34 ?_
    obtain ⟨f35, hv⟩ := hv
    obtain ⟨f36, hv⟩ := hv
    refine jg_getr dX3_gatherUnits_22 fl_RX3_56 rfl f35 f36 ?_
    refine jg_astore_n (lv' := [(2, .inr (.inr (jr h 7 (jd (jR h (jd (jr h 384 (jd (jr h 64 a0)))) (x1 : Int32).toNatClampNeg))))), (0, .inr (.inr (some (a0)))), (1, .inl (x1))]) dX3_gatherUnits_25 rfl (by decide) rfl ?_
    refine jg_aload_n dX3_gatherUnits_26 rfl (List.Mem.head _) ?_
    refine jg_iconst (v := 1) dX3_gatherUnits_27 (by decide) ?_
    obtain ⟨f37, hv⟩ := hv
    obtain ⟨f38, hv⟩ := hv
    obtain ⟨h39, e40⟩ : ∃ z : jh, z = jsi h 194 (jd (jr h 7 (jd (jR h (jd (jr h 384 (jd (jr h 64 a0)))) (x1 : Int32).toNatClampNeg)))) (1) := ⟨_, rfl⟩
    replace hv := hv h39 e40
    refine jp_puti dX3_gatherUnits_28 (jfp.nf fl_RX3_60 (fun q hq => by cases hq; rfl)) rfl f37 f38 e40 ?_
    refine jg_aload_n dX3_gatherUnits_31 rfl (List.Mem.head _) ?_
    refine jg_null dX3_gatherUnits_32 ?_
    obtain ⟨h41, e42⟩ : ∃ z : jh, z = jsr h39 197 (jd (jr h 7 (jd (jR h (jd (jr h 384 (jd (jr h 64 a0)))) (x1 : Int32).toNatClampNeg)))) (none) := ⟨_, rfl⟩
    replace hv := hv h41 e42
    refine jp_putr dX3_gatherUnits_33 (jfp.nf fl_RX3_65 (fun q hq => by cases hq; rfl)) rfl f37 ((congrArg (fun z => jt z (jd (jr h 7 (jd (jR h (jd (jr h 384 (jd (jr h 64 a0)))) (x1 : Int32).toNatClampNeg))))) e40).trans f38) e42 ?_
    refine jg_iinc (v := (x1) + (-1)) (lv' := [(1, .inl ((x1) + (-1))), (2, .inr (.inr (jr h 7 (jd (jR h (jd (jr h 384 (jd (jr h 64 a0)))) (x1 : Int32).toNatClampNeg))))), (0, .inr (.inr (some (a0))))]) dX3_gatherUnits_36 (List.Mem.tail _ (List.Mem.tail _ (List.Mem.head _))) rfl (by decide) rfl ?_
    refine jg_goto (tgt := 8) dX3_gatherUnits_39 (by decide) ?_
    refine jG.sub (lv' := [(0, .inr (.inr (some (a0)))), (1, .inl ((x1) + (-1)))]) (by simp) ?_
    exact hv
def VX3_gatherUnits_0 (g : jg) (a0 : Nat) (h : jh) (k n : Nat) (Q : jq) : Prop := (jt h a0 = 2) ∧ (¬ (jr h 64 a0) = none) ∧ (jt h (jd (jr h 64 a0)) = 7) ∧ jG g mX3_gatherUnits 8 [(0, .inr (.inr (some (a0)))), (1, .inl (ji h 385 (jd (jr h 64 a0))))] [] h k n Q
set_option maxRecDepth 20000 in
theorem vX3_gatherUnits_0 {g : jg} {a0 : Nat} {h : jh} {k n : Nat} {Q : jq} (hv : VX3_gatherUnits_0 g a0 h k n Q) : jG g mX3_gatherUnits 0 [(0, .inr (.inr (some (a0))))] [] h k n Q := by
  unfold VX3_gatherUnits_0 at hv
  refine jg_aload_n dX3_gatherUnits_0 rfl (List.Mem.head _) ?_
  obtain ⟨f43, hv⟩ := hv
  refine jg_getr dX3_gatherUnits_1 fl_RX3_9 rfl jsn f43 ?_
  obtain ⟨f44, hv⟩ := hv
  obtain ⟨f45, hv⟩ := hv
  refine jg_geti dX3_gatherUnits_4 fl_RX3_22 rfl f44 f45 ?_
  refine jg_istore_n (lv' := [(1, .inl (ji h 385 (jd (jr h 64 a0)))), (0, .inr (.inr (some (a0))))]) dX3_gatherUnits_7 rfl (by decide) rfl ?_
  refine jG.sub (lv' := [(0, .inr (.inr (some (a0)))), (1, .inl (ji h 385 (jd (jr h 64 a0))))]) (by simp) ?_
  exact hv
theorem eX3_gatherUnits {g : jg} {a0 : Nat} {h : jh} {mc ms : Nat} {Q : jq} (hv : VX3_gatherUnits_0 g a0 h mc ms Q) : jM g mX3_gatherUnits [.inr (.inr (some (a0)))] h mc ms Q := jM.of (by decide) (Nat.le_of_ble_eq_true rfl) (lv := [(0, .inr (.inr (some (a0))))]) rfl (vX3_gatherUnits_0 hv)
theorem dX3_begin_0 : decode cX3_begin 0 = .ok (.aload_n 1, 1) := by decide +kernel
theorem dX3_begin_1 : decode cX3_begin 1 = .ok (.getfield 56, 3) := by decide +kernel
theorem dX3_begin_4 : decode cX3_begin 4 = .ok (.astore_n 2, 1) := by decide +kernel
theorem dX3_begin_5 : decode cX3_begin 5 = .ok (.aload_n 1, 1) := by decide +kernel
theorem dX3_begin_6 : decode cX3_begin 6 = .ok (.getfield 38, 3) := by decide +kernel
theorem dX3_begin_9 : decode cX3_begin 9 = .ok (.ifnonnull 11, 3) := by decide +kernel
theorem dX3_begin_12 : decode cX3_begin 12 = .ok (.aload_n 0, 1) := by decide +kernel
theorem dX3_begin_13 : decode cX3_begin 13 = .ok (.aload_n 1, 1) := by decide +kernel
theorem dX3_begin_14 : decode cX3_begin 14 = .ok (.invokevirtual 82, 3) := by decide +kernel
theorem dX3_begin_17 : decode cX3_begin 17 = .ok (.goto 11, 3) := by decide +kernel
theorem dX3_begin_20 : decode cX3_begin 20 = .ok (.aload_n 1, 1) := by decide +kernel
theorem dX3_begin_21 : decode cX3_begin 21 = .ok (.aload_n 1, 1) := by decide +kernel
theorem dX3_begin_22 : decode cX3_begin 22 = .ok (.getfield 38, 3) := by decide +kernel
theorem dX3_begin_25 : decode cX3_begin 25 = .ok (.invokestatic 86, 3) := by decide +kernel
theorem dX3_begin_28 : decode cX3_begin 28 = .ok (.lstore_n 3, 1) := by decide +kernel
theorem dX3_begin_29 : decode cX3_begin 29 = .ok (.aload_n 2, 1) := by decide +kernel
theorem dX3_begin_30 : decode cX3_begin 30 = .ok (.lload_n 3, 1) := by decide +kernel
theorem dX3_begin_31 : decode cX3_begin 31 = .ok (.aload_n 1, 1) := by decide +kernel
theorem dX3_begin_32 : decode cX3_begin 32 = .ok (.getfield 69, 3) := by decide +kernel
theorem dX3_begin_35 : decode cX3_begin 35 = .ok (.ifCond .ne 10, 3) := by decide +kernel
theorem dX3_begin_38 : decode cX3_begin 38 = .ok (.aload_n 1, 1) := by decide +kernel
theorem dX3_begin_39 : decode cX3_begin 39 = .ok (.getfield 90, 3) := by decide +kernel
theorem dX3_begin_42 : decode cX3_begin 42 = .ok (.ifnull 10, 3) := by decide +kernel
theorem dX3_begin_45 : decode cX3_begin 45 = .ok (.aload_n 2, 1) := by decide +kernel
theorem dX3_begin_46 : decode cX3_begin 46 = .ok (.getfield 60, 3) := by decide +kernel
theorem dX3_begin_49 : decode cX3_begin 49 = .ok (.goto 4, 3) := by decide +kernel
theorem dX3_begin_52 : decode cX3_begin 52 = .ok (.iconst 1, 1) := by decide +kernel
theorem dX3_begin_53 : decode cX3_begin 53 = .ok (.invokestatic 93, 3) := by decide +kernel
theorem dX3_begin_56 : decode cX3_begin 56 = .ok (.putfield 97, 3) := by decide +kernel
theorem dX3_begin_59 : decode cX3_begin 59 = .ok (.aload_n 2, 1) := by decide +kernel
theorem dX3_begin_60 : decode cX3_begin 60 = .ok (.aload_n 2, 1) := by decide +kernel
theorem dX3_begin_61 : decode cX3_begin 61 = .ok (.getfield 97, 3) := by decide +kernel
theorem dX3_begin_64 : decode cX3_begin 64 = .ok (.lload_n 3, 1) := by decide +kernel
theorem dX3_begin_65 : decode cX3_begin 65 = .ok (.lsub, 1) := by decide +kernel
theorem dX3_begin_66 : decode cX3_begin 66 = .ok (.l2i, 1) := by decide +kernel
theorem dX3_begin_67 : decode cX3_begin 67 = .ok (.putfield 100, 3) := by decide +kernel
theorem dX3_begin_70 : decode cX3_begin 70 = .ok (.aload_n 2, 1) := by decide +kernel
theorem dX3_begin_71 : decode cX3_begin 71 = .ok (.aload_n 2, 1) := by decide +kernel
theorem dX3_begin_72 : decode cX3_begin 72 = .ok (.getfield 97, 3) := by decide +kernel
theorem dX3_begin_75 : decode cX3_begin 75 = .ok (.aload_n 1, 1) := by decide +kernel
theorem dX3_begin_76 : decode cX3_begin 76 = .ok (.getfield 73, 3) := by decide +kernel
theorem dX3_begin_79 : decode cX3_begin 79 = .ok (.i2l, 1) := by decide +kernel
theorem dX3_begin_80 : decode cX3_begin 80 = .ok (.ladd, 1) := by decide +kernel
theorem dX3_begin_81 : decode cX3_begin 81 = .ok (.putfield 103, 3) := by decide +kernel
theorem dX3_begin_84 : decode cX3_begin 84 = .ok (.aload_n 2, 1) := by decide +kernel
theorem dX3_begin_85 : decode cX3_begin 85 = .ok (.aload_n 1, 1) := by decide +kernel
theorem dX3_begin_86 : decode cX3_begin 86 = .ok (.getfield 104, 3) := by decide +kernel
theorem dX3_begin_89 : decode cX3_begin 89 = .ok (.ifnonnull 34, 3) := by decide +kernel
theorem dX3_begin_92 : decode cX3_begin 92 = .ok (.aload_n 1, 1) := by decide +kernel
theorem dX3_begin_93 : decode cX3_begin 93 = .ok (.getfield 38, 3) := by decide +kernel
theorem dX3_begin_96 : decode cX3_begin 96 = .ok (.ifnonnull 14, 3) := by decide +kernel
theorem dX3_begin_99 : decode cX3_begin 99 = .ok (.aload_n 0, 1) := by decide +kernel
theorem dX3_begin_100 : decode cX3_begin 100 = .ok (.aload_n 1, 1) := by decide +kernel
theorem dX3_begin_101 : decode cX3_begin 101 = .ok (.invokevirtual 107, 3) := by decide +kernel
theorem dX3_begin_104 : decode cX3_begin 104 = .ok (.ifCond .eq 23, 3) := by decide +kernel
theorem dX3_begin_107 : decode cX3_begin 107 = .ok (.goto 16, 3) := by decide +kernel
theorem dX3_begin_110 : decode cX3_begin 110 = .ok (.aload_n 1, 1) := by decide +kernel
theorem dX3_begin_111 : decode cX3_begin 111 = .ok (.getfield 38, 3) := by decide +kernel
theorem dX3_begin_114 : decode cX3_begin 114 = .ok (.getfield 56, 3) := by decide +kernel
theorem dX3_begin_117 : decode cX3_begin 117 = .ok (.getfield 111, 3) := by decide +kernel
theorem dX3_begin_120 : decode cX3_begin 120 = .ok (.ifCond .eq 7, 3) := by decide +kernel
theorem dX3_begin_123 : decode cX3_begin 123 = .ok (.iconst 1, 1) := by decide +kernel
theorem dX3_begin_124 : decode cX3_begin 124 = .ok (.goto 4, 3) := by decide +kernel
theorem dX3_begin_127 : decode cX3_begin 127 = .ok (.iconst 0, 1) := by decide +kernel
theorem dX3_begin_128 : decode cX3_begin 128 = .ok (.putfield 111, 3) := by decide +kernel
theorem dX3_begin_131 : decode cX3_begin 131 = .ok (.return_, 1) := by decide +kernel
def VX3_begin_53 (g : jg) (a0 : Nat) (o1 : Option Nat) (o2 : Option Nat) (x3 : Int64) (so0 : Option Nat) (s1 : Int64) (s2 : Int32) (h : jh) (k n : Nat) (Q : jq) : Prop := jM g mX3_roundUp [.inr (.inl (s1)), .inl (s2)] h 0 0 (jkl (fun (r1 : Int64) (h2 : jh) => (¬ (so0) = none) ∧ (jt h2 (jd (so0)) = 4) ∧ ∀ h5 : jh, h5 = jsl h2 192 (jd (so0)) (r1) → (¬ (o2) = none) ∧ (jt h5 (jd (o2)) = 4) ∧ ∀ h9 : jh, h9 = jsi h5 195 (jd (o2)) (((jl h5 192 (jd (o2))) - (x3) : Int64).toInt32) → (¬ (o1) = none) ∧ (jt h9 (jd (o1)) = 1) ∧ ∀ h13 : jh, h13 = jsl h9 193 (jd (o2)) ((jl h9 192 (jd (o2))) + ((ji h9 4 (jd (o1)) : Int32).toInt64)) → ((¬ (jr h13 17 (jd (o1))) = none → ∀ h16 : jh, h16 = jsi h13 196 (jd (o2)) (1) → Q (.inl none) h16) ∧ ((jr h13 17 (jd (o1))) = none → ((¬ (jr h13 5 (jd (o1))) = none → (jt h13 (jd (jr h13 5 (jd (o1)))) = 1) ∧ (¬ (jr h13 7 (jd (jr h13 5 (jd (o1))))) = none) ∧ (jt h13 (jd (jr h13 7 (jd (jr h13 5 (jd (o1)))))) = 4) ∧ (((ji h13 196 (jd (jr h13 7 (jd (jr h13 5 (jd (o1))))))) = 0 → ∀ h23 : jh, h23 = jsi h13 196 (jd (o2)) (0) → Q (.inl none) h23) ∧ (¬ (ji h13 196 (jd (jr h13 7 (jd (jr h13 5 (jd (o1))))))) = 0 → ∀ h25 : jh, h25 = jsi h13 196 (jd (o2)) (1) → Q (.inl none) h25))) ∧ ((jr h13 5 (jd (o1))) = none → (jt h13 a0 = 2) ∧ jM g mX3_isLaterExternal [.inr (.inr (some a0)), .inr (.inr (o1))] h13 0 0 (jki (fun (r28 : Int32) (h29 : jh) => (((r28) = 0 → (jt h29 (jd (o2)) = 4) ∧ ∀ h32 : jh, h32 = jsi h29 196 (jd (o2)) (0) → Q (.inl none) h32) ∧ (¬ (r28) = 0 → (jt h29 (jd (o2)) = 4) ∧ ∀ h35 : jh, h35 = jsi h29 196 (jd (o2)) (1) → Q (.inl none) h35))) (fun e h9 => Q (.inr e) h9))))))) (fun e h9 => Q (.inr e) h9))
set_option maxRecDepth 20000 in
theorem vX3_begin_53 {g : jg} {a0 : Nat} {o1 : Option Nat} {o2 : Option Nat} {x3 : Int64} {so0 : Option Nat} {s1 : Int64} {s2 : Int32} {h : jh} {k n : Nat} {Q : jq} (hv : VX3_begin_53 g a0 o1 o2 x3 so0 s1 s2 h k n Q) : jG g mX3_begin 53 [(0, .inr (.inr (some (a0)))), (1, .inr (.inr (o1))), (2, .inr (.inr (o2))), (3, .inr (.inl (x3)))] [.inl (s2), .inr (.inl (s1)), .inr (.inr (so0))] h k n Q := by
  unfold VX3_begin_53 at hv
  refine jg_callS mX3_roundUp [.inr (.inl (s1)), .inl (s2)] [.inr (.inr (so0))] dX3_begin_53 rfl cl_RX3_93 ⟨⟨by decide, by decide⟩, jcat_le _ (Nat.le_of_ble_eq_true rfl)⟩ (Nat.zero_le _) (Nat.zero_le _) (jM.mono (jkl_k (fun r1 h2 hv => ?_)) hv)
  obtain ⟨f3, hv⟩ := hv
  obtain ⟨f4, hv⟩ := hv
  obtain ⟨h5, e6⟩ : ∃ z : jh, z = jsl h2 192 (jd (so0)) (r1) := ⟨_, rfl⟩
  replace hv := hv h5 e6
  refine jp_putl dX3_begin_56 (jfp.nf fl_RX3_97 (fun q hq => by cases hq; rfl)) rfl f3 f4 e6 ?_
  refine jg_aload_n dX3_begin_59 rfl (List.Mem.tail _ (List.Mem.tail _ (List.Mem.head _))) ?_
  refine jg_aload_n dX3_begin_60 rfl (List.Mem.tail _ (List.Mem.tail _ (List.Mem.head _))) ?_
  obtain ⟨f7, hv⟩ := hv
  obtain ⟨f8, hv⟩ := hv
  refine jg_getl dX3_begin_61 fl_RX3_97 rfl f7 f8 ?_
  refine jg_lload_n dX3_begin_64 rfl (List.Mem.tail _ (List.Mem.tail _ (List.Mem.tail _ (List.Mem.head _)))) ?_
  refine jg_lsub dX3_begin_65 ?_
  refine jg_l2i dX3_begin_66 ?_
  obtain ⟨h9, e10⟩ : ∃ z : jh, z = jsi h5 195 (jd (o2)) (((jl h5 192 (jd (o2))) - (x3) : Int64).toInt32) := ⟨_, rfl⟩
  replace hv := hv h9 e10
  refine jp_puti dX3_begin_67 (jfp.nf fl_RX3_100 (fun q hq => by cases hq; rfl)) rfl f7 f8 e10 ?_
  refine jg_aload_n dX3_begin_70 rfl (List.Mem.tail _ (List.Mem.tail _ (List.Mem.head _))) ?_
  refine jg_aload_n dX3_begin_71 rfl (List.Mem.tail _ (List.Mem.tail _ (List.Mem.head _))) ?_
  refine jg_getl dX3_begin_72 fl_RX3_97 rfl f7 ((congrArg (fun z => jt z (jd (o2))) e10).trans f8) ?_
  refine jg_aload_n dX3_begin_75 rfl (List.Mem.tail _ (List.Mem.head _)) ?_
  obtain ⟨f11, hv⟩ := hv
  obtain ⟨f12, hv⟩ := hv
  refine jg_geti dX3_begin_76 fl_RX3_73 rfl f11 f12 ?_
  refine jg_i2l dX3_begin_79 ?_
  refine jg_ladd dX3_begin_80 ?_
  obtain ⟨h13, e14⟩ : ∃ z : jh, z = jsl h9 193 (jd (o2)) ((jl h9 192 (jd (o2))) + ((ji h9 4 (jd (o1)) : Int32).toInt64)) := ⟨_, rfl⟩
  replace hv := hv h13 e14
  refine jp_putl dX3_begin_81 (jfp.nf fl_RX3_103 (fun q hq => by cases hq; rfl)) rfl f7 ((congrArg (fun z => jt z (jd (o2))) e10).trans f8) e14 ?_
  refine jg_aload_n dX3_begin_84 rfl (List.Mem.tail _ (List.Mem.tail _ (List.Mem.head _))) ?_
  refine jg_aload_n dX3_begin_85 rfl (List.Mem.tail _ (List.Mem.head _)) ?_
  refine jg_getr dX3_begin_86 fl_RX3_104 rfl f11 ((congrArg (fun z => jt z (jd (o1))) e14).trans f12) ?_
  refine jg_ifnonnull (tgt := 123) dX3_begin_89 (by decide) (fun c15 => ?_) (fun c15 => ?_)
  · replace hv := hv.1 c15
    refine jg_iconst (v := 1) dX3_begin_123 (by decide) ?_
    refine jg_goto (tgt := 128) dX3_begin_124 (by decide) ?_
    obtain ⟨h16, e17⟩ : ∃ z : jh, z = jsi h13 196 (jd (o2)) (1) := ⟨_, rfl⟩
    replace hv := hv h16 e17
    refine jp_putz dX3_begin_128 (jfp.nf fl_RX3_111 (fun q hq => by cases hq; rfl)) rfl f7 ((congrArg (fun z => jt z (jd (o2))) e14).trans ((congrArg (fun z => jt z (jd (o2))) e10).trans f8)) (by decide) e17 ?_
    exact jg_vret dX3_begin_131 rfl hv
  · replace hv := hv.2 c15
    refine jg_aload_n dX3_begin_92 rfl (List.Mem.tail _ (List.Mem.head _)) ?_
    refine jg_getr dX3_begin_93 fl_RX3_38 rfl f11 ((congrArg (fun z => jt z (jd (o1))) e14).trans f12) ?_
    refine jg_ifnonnull (tgt := 110) dX3_begin_96 (by decide) (fun c18 => ?_) (fun c18 => ?_)
    · replace hv := hv.1 c18
      refine jg_aload_n dX3_begin_110 rfl (List.Mem.tail _ (List.Mem.head _)) ?_
      refine jg_getr dX3_begin_111 fl_RX3_38 rfl f11 ((congrArg (fun z => jt z (jd (o1))) e14).trans f12) ?_
      obtain ⟨f19, hv⟩ := hv
      refine jg_getr dX3_begin_114 fl_RX3_56 rfl c18 f19 ?_
      obtain ⟨f20, hv⟩ := hv
      obtain ⟨f21, hv⟩ := hv
      refine jg_geti dX3_begin_117 fl_RX3_111 rfl f20 f21 ?_
      refine jg_if_eq (tgt := 127) dX3_begin_120 (by decide) (fun c22 => ?_) (fun c22 => ?_)
      · replace hv := hv.1 c22
        refine jg_iconst (v := 0) dX3_begin_127 (by decide) ?_
        obtain ⟨h23, e24⟩ : ∃ z : jh, z = jsi h13 196 (jd (o2)) (0) := ⟨_, rfl⟩
        replace hv := hv h23 e24
        refine jp_putz dX3_begin_128 (jfp.nf fl_RX3_111 (fun q hq => by cases hq; rfl)) rfl f7 ((congrArg (fun z => jt z (jd (o2))) e14).trans ((congrArg (fun z => jt z (jd (o2))) e10).trans f8)) (by decide) e24 ?_
        exact jg_vret dX3_begin_131 rfl hv
      · replace hv := hv.2 c22
        refine jg_iconst (v := 1) dX3_begin_123 (by decide) ?_
        refine jg_goto (tgt := 128) dX3_begin_124 (by decide) ?_
        obtain ⟨h25, e26⟩ : ∃ z : jh, z = jsi h13 196 (jd (o2)) (1) := ⟨_, rfl⟩
        replace hv := hv h25 e26
        refine jp_putz dX3_begin_128 (jfp.nf fl_RX3_111 (fun q hq => by cases hq; rfl)) rfl f7 ((congrArg (fun z => jt z (jd (o2))) e14).trans ((congrArg (fun z => jt z (jd (o2))) e10).trans f8)) (by decide) e26 ?_
        exact jg_vret dX3_begin_131 rfl hv
    · replace hv := hv.2 c18
      refine jg_aload_n dX3_begin_99 rfl (List.Mem.head _) ?_
      refine jg_aload_n dX3_begin_100 rfl (List.Mem.tail _ (List.Mem.head _)) ?_
      obtain ⟨f27, hv⟩ := hv
      refine jp_callV mX3_isLaterExternal [.inr (.inr (o1))] [.inr (.inr (o2))] dX3_begin_101 rfl cl_RX3_107 ⟨⟨by decide, by decide⟩, jcat_le _ (Nat.le_of_ble_eq_true rfl)⟩ jsn f27 (Nat.zero_le _) (Nat.zero_le _) (jM.mono (jki_k (fun r28 h29 hv => ?_)) hv)
      refine jg_if_eq (tgt := 127) dX3_begin_104 (by decide) (fun c30 => ?_) (fun c30 => ?_)
      · replace hv := hv.1 c30
        refine jg_iconst (v := 0) dX3_begin_127 (by decide) ?_
        obtain ⟨f31, hv⟩ := hv
        obtain ⟨h32, e33⟩ : ∃ z : jh, z = jsi h29 196 (jd (o2)) (0) := ⟨_, rfl⟩
        replace hv := hv h32 e33
        refine jp_putz dX3_begin_128 (jfp.nf fl_RX3_111 (fun q hq => by cases hq; rfl)) rfl f7 f31 (by decide) e33 ?_
        exact jg_vret dX3_begin_131 rfl hv
      · replace hv := hv.2 c30
        refine jg_goto (tgt := 123) dX3_begin_107 (by decide) ?_
        refine jg_iconst (v := 1) dX3_begin_123 (by decide) ?_
        refine jg_goto (tgt := 128) dX3_begin_124 (by decide) ?_
        obtain ⟨f34, hv⟩ := hv
        obtain ⟨h35, e36⟩ : ∃ z : jh, z = jsi h29 196 (jd (o2)) (1) := ⟨_, rfl⟩
        replace hv := hv h35 e36
        refine jp_putz dX3_begin_128 (jfp.nf fl_RX3_111 (fun q hq => by cases hq; rfl)) rfl f7 f34 (by decide) e36 ?_
        exact jg_vret dX3_begin_131 rfl hv
def VX3_begin_28 (g : jg) (a0 : Nat) (o1 : Option Nat) (o2 : Option Nat) (s0 : Int64) (h : jh) (k n : Nat) (Q : jq) : Prop := (¬ (o1) = none) ∧ (jt h (jd (o1)) = 1) ∧ ((¬ (ji h 11 (jd (o1))) = 0 → (¬ (o2) = none) ∧ (jt h (jd (o2)) = 4) ∧ VX3_begin_53 g (a0) (o1) (o2) (s0) (o2) (s0) (ji h 194 (jd (o2))) h k n Q) ∧ ((ji h 11 (jd (o1))) = 0 → (((jr h 10 (jd (o1))) = none → VX3_begin_53 g (a0) (o1) (o2) (s0) (o2) (s0) (1) h k n Q) ∧ (¬ (jr h 10 (jd (o1))) = none → (¬ (o2) = none) ∧ (jt h (jd (o2)) = 4) ∧ VX3_begin_53 g (a0) (o1) (o2) (s0) (o2) (s0) (ji h 194 (jd (o2))) h k n Q))))
set_option maxRecDepth 20000 in
theorem vX3_begin_28 {g : jg} {a0 : Nat} {o1 : Option Nat} {o2 : Option Nat} {s0 : Int64} {h : jh} {k n : Nat} {Q : jq} (hv : VX3_begin_28 g a0 o1 o2 s0 h k n Q) : jG g mX3_begin 28 [(0, .inr (.inr (some (a0)))), (1, .inr (.inr (o1))), (2, .inr (.inr (o2)))] [.inr (.inl (s0))] h k n Q := by
  unfold VX3_begin_28 at hv
  refine jg_lstore_n (lv' := [(3, .inr (.inl (s0))), (0, .inr (.inr (some (a0)))), (1, .inr (.inr (o1))), (2, .inr (.inr (o2)))]) dX3_begin_28 rfl (by decide) rfl ?_
  refine jg_aload_n dX3_begin_29 rfl (List.Mem.tail _ (List.Mem.tail _ (List.Mem.tail _ (List.Mem.head _)))) ?_
  refine jg_lload_n dX3_begin_30 rfl (List.Mem.head _) ?_
  refine jg_aload_n dX3_begin_31 rfl (List.Mem.tail _ (List.Mem.tail _ (List.Mem.head _))) ?_
  obtain ⟨f37, hv⟩ := hv
  obtain ⟨f38, hv⟩ := hv
  refine jg_geti dX3_begin_32 fl_RX3_69 rfl f37 f38 ?_
  refine jg_if_ne (tgt := 45) dX3_begin_35 (by decide) (fun c39 => ?_) (fun c39 => ?_)
  · replace hv := hv.1 c39
    refine jg_aload_n dX3_begin_45 rfl (List.Mem.tail _ (List.Mem.tail _ (List.Mem.tail _ (List.Mem.head _)))) ?_
    obtain ⟨f40, hv⟩ := hv
    obtain ⟨f41, hv⟩ := hv
    refine jg_geti dX3_begin_46 fl_RX3_60 rfl f40 f41 ?_
    refine jg_goto (tgt := 53) dX3_begin_49 (by decide) ?_
    refine jG.sub (lv' := [(0, .inr (.inr (some (a0)))), (1, .inr (.inr (o1))), (2, .inr (.inr (o2))), (3, .inr (.inl (s0)))]) (by simp) ?_
    exact vX3_begin_53 hv
  · replace hv := hv.2 c39
    refine jg_aload_n dX3_begin_38 rfl (List.Mem.tail _ (List.Mem.tail _ (List.Mem.head _))) ?_
    refine jg_getr dX3_begin_39 fl_RX3_90 rfl f37 f38 ?_
    refine jg_ifnull (tgt := 52) dX3_begin_42 (by decide) (fun c42 => ?_) (fun c42 => ?_)
    · replace hv := hv.1 c42
      refine jg_iconst (v := 1) dX3_begin_52 (by decide) ?_
      refine jG.sub (lv' := [(0, .inr (.inr (some (a0)))), (1, .inr (.inr (o1))), (2, .inr (.inr (o2))), (3, .inr (.inl (s0)))]) (by simp) ?_
      exact vX3_begin_53 hv
    · replace hv := hv.2 c42
      refine jg_aload_n dX3_begin_45 rfl (List.Mem.tail _ (List.Mem.tail _ (List.Mem.tail _ (List.Mem.head _)))) ?_
      obtain ⟨f43, hv⟩ := hv
      obtain ⟨f44, hv⟩ := hv
      refine jg_geti dX3_begin_46 fl_RX3_60 rfl f43 f44 ?_
      refine jg_goto (tgt := 53) dX3_begin_49 (by decide) ?_
      refine jG.sub (lv' := [(0, .inr (.inr (some (a0)))), (1, .inr (.inr (o1))), (2, .inr (.inr (o2))), (3, .inr (.inl (s0)))]) (by simp) ?_
      exact vX3_begin_53 hv
def VX3_begin_0 (g : jg) (a0 : Nat) (o1 : Option Nat) (h : jh) (k n : Nat) (Q : jq) : Prop := (¬ (o1) = none) ∧ (jt h (jd (o1)) = 1) ∧ ((¬ (jr h 5 (jd (o1))) = none → jM g mX3_beginBelow [.inr (.inr (o1)), .inr (.inr (jr h 5 (jd (o1))))] h 0 0 (jkl (fun (r48 : Int64) (h49 : jh) => VX3_begin_28 g (a0) (o1) (jr h 7 (jd (o1))) (r48) h49 k n Q) (fun e h9 => Q (.inr e) h9))) ∧ ((jr h 5 (jd (o1))) = none → (jt h a0 = 2) ∧ jM g mX3_beginOfRecord [.inr (.inr (some a0)), .inr (.inr (o1))] h 0 0 (jkl (fun (r51 : Int64) (h52 : jh) => VX3_begin_28 g (a0) (o1) (jr h 7 (jd (o1))) (r51) h52 k n Q) (fun e h9 => Q (.inr e) h9))))
set_option maxRecDepth 20000 in
theorem vX3_begin_0 {g : jg} {a0 : Nat} {o1 : Option Nat} {h : jh} {k n : Nat} {Q : jq} (hv : VX3_begin_0 g a0 o1 h k n Q) : jG g mX3_begin 0 [(0, .inr (.inr (some (a0)))), (1, .inr (.inr (o1)))] [] h k n Q := by
  unfold VX3_begin_0 at hv
  refine jg_aload_n dX3_begin_0 rfl (List.Mem.tail _ (List.Mem.head _)) ?_
  obtain ⟨f45, hv⟩ := hv
  obtain ⟨f46, hv⟩ := hv
  refine jg_getr dX3_begin_1 fl_RX3_56 rfl f45 f46 ?_
  refine jg_astore_n (lv' := [(2, .inr (.inr (jr h 7 (jd (o1))))), (0, .inr (.inr (some (a0)))), (1, .inr (.inr (o1)))]) dX3_begin_4 rfl (by decide) rfl ?_
  refine jg_aload_n dX3_begin_5 rfl (List.Mem.tail _ (List.Mem.tail _ (List.Mem.head _))) ?_
  refine jg_getr dX3_begin_6 fl_RX3_38 rfl f45 f46 ?_
  refine jg_ifnonnull (tgt := 20) dX3_begin_9 (by decide) (fun c47 => ?_) (fun c47 => ?_)
  · replace hv := hv.1 c47
    refine jg_aload_n dX3_begin_20 rfl (List.Mem.tail _ (List.Mem.tail _ (List.Mem.head _))) ?_
    refine jg_aload_n dX3_begin_21 rfl (List.Mem.tail _ (List.Mem.tail _ (List.Mem.head _))) ?_
    refine jg_getr dX3_begin_22 fl_RX3_38 rfl f45 f46 ?_
    refine jg_callS mX3_beginBelow [.inr (.inr (o1)), .inr (.inr (jr h 5 (jd (o1))))] [] dX3_begin_25 rfl cl_RX3_86 ⟨⟨by decide, by decide⟩, by decide⟩ (Nat.zero_le _) (Nat.zero_le _) (jM.mono (jkl_k (fun r48 h49 hv => ?_)) hv)
    refine jG.sub (lv' := [(0, .inr (.inr (some (a0)))), (1, .inr (.inr (o1))), (2, .inr (.inr (jr h 7 (jd (o1)))))]) (by simp) ?_
    exact vX3_begin_28 hv
  · replace hv := hv.2 c47
    refine jg_aload_n dX3_begin_12 rfl (List.Mem.tail _ (List.Mem.head _)) ?_
    refine jg_aload_n dX3_begin_13 rfl (List.Mem.tail _ (List.Mem.tail _ (List.Mem.head _))) ?_
    obtain ⟨f50, hv⟩ := hv
    refine jp_callV mX3_beginOfRecord [.inr (.inr (o1))] [] dX3_begin_14 rfl cl_RX3_82 ⟨⟨by decide, by decide⟩, by decide⟩ jsn f50 (Nat.zero_le _) (Nat.zero_le _) (jM.mono (jkl_k (fun r51 h52 hv => ?_)) hv)
    refine jg_goto (tgt := 28) dX3_begin_17 (by decide) ?_
    refine jG.sub (lv' := [(0, .inr (.inr (some (a0)))), (1, .inr (.inr (o1))), (2, .inr (.inr (jr h 7 (jd (o1)))))]) (by simp) ?_
    exact vX3_begin_28 hv
theorem eX3_begin {g : jg} {a0 : Nat} {o1 : Option Nat} {h : jh} {mc ms : Nat} {Q : jq} (hv : VX3_begin_0 g a0 o1 h mc ms Q) : jM g mX3_begin [.inr (.inr (some (a0))), .inr (.inr (o1))] h mc ms Q := jM.of (by decide) (Nat.le_of_ble_eq_true rfl) (lv := [(0, .inr (.inr (some (a0)))), (1, .inr (.inr (o1)))]) rfl (vX3_begin_0 hv)
theorem dX3_beginOfRecord_0 : decode cX3_beginOfRecord 0 = .ok (.aload_n 1, 1) := by decide +kernel
theorem dX3_beginOfRecord_1 : decode cX3_beginOfRecord 1 = .ok (.getfield 104, 3) := by decide +kernel
theorem dX3_beginOfRecord_4 : decode cX3_beginOfRecord 4 = .ok (.ifnull 14, 3) := by decide +kernel
theorem dX3_beginOfRecord_7 : decode cX3_beginOfRecord 7 = .ok (.aload_n 1, 1) := by decide +kernel
theorem dX3_beginOfRecord_8 : decode cX3_beginOfRecord 8 = .ok (.getfield 104, 3) := by decide +kernel
theorem dX3_beginOfRecord_11 : decode cX3_beginOfRecord 11 = .ok (.getfield 56, 3) := by decide +kernel
theorem dX3_beginOfRecord_14 : decode cX3_beginOfRecord 14 = .ok (.getfield 97, 3) := by decide +kernel
theorem dX3_beginOfRecord_17 : decode cX3_beginOfRecord 17 = .ok (.lreturn, 1) := by decide +kernel
theorem dX3_beginOfRecord_18 : decode cX3_beginOfRecord 18 = .ok (.aload_n 1, 1) := by decide +kernel
theorem dX3_beginOfRecord_19 : decode cX3_beginOfRecord 19 = .ok (.getfield 114, 3) := by decide +kernel
theorem dX3_beginOfRecord_22 : decode cX3_beginOfRecord 22 = .ok (.iconst (-1), 1) := by decide +kernel
theorem dX3_beginOfRecord_23 : decode cX3_beginOfRecord 23 = .ok (.if_icmp .ne 7, 3) := by decide +kernel
theorem dX3_beginOfRecord_26 : decode cX3_beginOfRecord 26 = .ok (.aconst_null, 1) := by decide +kernel
theorem dX3_beginOfRecord_27 : decode cX3_beginOfRecord 27 = .ok (.goto 14, 3) := by decide +kernel
theorem dX3_beginOfRecord_30 : decode cX3_beginOfRecord 30 = .ok (.aload_n 0, 1) := by decide +kernel
theorem dX3_beginOfRecord_31 : decode cX3_beginOfRecord 31 = .ok (.getfield 9, 3) := by decide +kernel
theorem dX3_beginOfRecord_34 : decode cX3_beginOfRecord 34 = .ok (.aload_n 1, 1) := by decide +kernel
theorem dX3_beginOfRecord_35 : decode cX3_beginOfRecord 35 = .ok (.getfield 114, 3) := by decide +kernel
theorem dX3_beginOfRecord_38 : decode cX3_beginOfRecord 38 = .ok (.invokevirtual 117, 3) := by decide +kernel
theorem dX3_beginOfRecord_41 : decode cX3_beginOfRecord 41 = .ok (.astore_n 2, 1) := by decide +kernel
theorem dX3_beginOfRecord_42 : decode cX3_beginOfRecord 42 = .ok (.aload_n 2, 1) := by decide +kernel
theorem dX3_beginOfRecord_43 : decode cX3_beginOfRecord 43 = .ok (.ifnull 8, 3) := by decide +kernel
theorem dX3_beginOfRecord_46 : decode cX3_beginOfRecord 46 = .ok (.aload_n 2, 1) := by decide +kernel
theorem dX3_beginOfRecord_47 : decode cX3_beginOfRecord 47 = .ok (.aload_n 1, 1) := by decide +kernel
theorem dX3_beginOfRecord_48 : decode cX3_beginOfRecord 48 = .ok (.if_acmp .ne 15, 3) := by decide +kernel
theorem dX3_beginOfRecord_51 : decode cX3_beginOfRecord 51 = .ok (.aload_n 0, 1) := by decide +kernel
theorem dX3_beginOfRecord_52 : decode cX3_beginOfRecord 52 = .ok (.getfield 15, 3) := by decide +kernel
theorem dX3_beginOfRecord_55 : decode cX3_beginOfRecord 55 = .ok (.bipush 8, 2) := by decide +kernel
theorem dX3_beginOfRecord_57 : decode cX3_beginOfRecord 57 = .ok (.invokestatic 93, 3) := by decide +kernel
theorem dX3_beginOfRecord_60 : decode cX3_beginOfRecord 60 = .ok (.goto 10, 3) := by decide +kernel
theorem dX3_beginOfRecord_63 : decode cX3_beginOfRecord 63 = .ok (.aload_n 2, 1) := by decide +kernel
theorem dX3_beginOfRecord_64 : decode cX3_beginOfRecord 64 = .ok (.getfield 56, 3) := by decide +kernel
theorem dX3_beginOfRecord_67 : decode cX3_beginOfRecord 67 = .ok (.getfield 97, 3) := by decide +kernel
theorem dX3_beginOfRecord_70 : decode cX3_beginOfRecord 70 = .ok (.lreturn, 1) := by decide +kernel
def VX3_beginOfRecord_41 (g : jg) (a0 : Nat) (o1 : Option Nat) (so0 : Option Nat) (h : jh) (k n : Nat) (Q : jq) : Prop := (((so0) = none → (jt h a0 = 2) ∧ jM g mX3_roundUp [.inr (.inl (jl h 65 a0)), .inl (8)] h 0 0 (jkl (fun (r3 : Int64) (h4 : jh) => Q (.inl (some (.inr (.inl (r3))))) h4) (fun e h9 => Q (.inr e) h9))) ∧ (¬ (so0) = none → ((¬ (so0) = (o1) → (jt h (jd (so0)) = 1) ∧ (¬ (jr h 7 (jd (so0))) = none) ∧ (jt h (jd (jr h 7 (jd (so0)))) = 4) ∧ Q (.inl (some (.inr (.inl (jl h 192 (jd (jr h 7 (jd (so0))))))))) h) ∧ ((so0) = (o1) → (jt h a0 = 2) ∧ jM g mX3_roundUp [.inr (.inl (jl h 65 a0)), .inl (8)] h 0 0 (jkl (fun (r10 : Int64) (h11 : jh) => Q (.inl (some (.inr (.inl (r10))))) h11) (fun e h9 => Q (.inr e) h9))))))
set_option maxRecDepth 20000 in
theorem vX3_beginOfRecord_41 {g : jg} {a0 : Nat} {o1 : Option Nat} {so0 : Option Nat} {h : jh} {k n : Nat} {Q : jq} (hv : VX3_beginOfRecord_41 g a0 o1 so0 h k n Q) : jG g mX3_beginOfRecord 41 [(0, .inr (.inr (some (a0)))), (1, .inr (.inr (o1)))] [.inr (.inr (so0))] h k n Q := by
  unfold VX3_beginOfRecord_41 at hv
  refine jg_astore_n (lv' := [(2, .inr (.inr (so0))), (0, .inr (.inr (some (a0)))), (1, .inr (.inr (o1)))]) dX3_beginOfRecord_41 rfl (by decide) rfl ?_
  refine jg_aload_n dX3_beginOfRecord_42 rfl (List.Mem.head _) ?_
  refine jg_ifnull (tgt := 51) dX3_beginOfRecord_43 (by decide) (fun c1 => ?_) (fun c1 => ?_)
  · replace hv := hv.1 c1
    refine jg_aload_n dX3_beginOfRecord_51 rfl (List.Mem.tail _ (List.Mem.head _)) ?_
    obtain ⟨f2, hv⟩ := hv
    refine jg_getl dX3_beginOfRecord_52 fl_RX3_15 rfl jsn f2 ?_
    refine jg_bipush (v := 8) dX3_beginOfRecord_55 (by decide) ?_
    refine jg_callS mX3_roundUp [.inr (.inl (jl h 65 a0)), .inl (8)] [] dX3_beginOfRecord_57 rfl cl_RX3_93 ⟨⟨by decide, by decide⟩, by decide⟩ (Nat.zero_le _) (Nat.zero_le _) (jM.mono (jkl_k (fun r3 h4 hv => ?_)) hv)
    refine jg_goto (tgt := 70) dX3_beginOfRecord_60 (by decide) ?_
    exact jg_lret dX3_beginOfRecord_70 rfl hv
  · replace hv := hv.2 c1
    refine jg_aload_n dX3_beginOfRecord_46 rfl (List.Mem.head _) ?_
    refine jg_aload_n dX3_beginOfRecord_47 rfl (List.Mem.tail _ (List.Mem.tail _ (List.Mem.head _))) ?_
    refine jg_acmp_ne (tgt := 63) dX3_beginOfRecord_48 (by decide) (fun c5 => ?_) (fun c5 => ?_)
    · replace hv := hv.1 c5
      refine jg_aload_n dX3_beginOfRecord_63 rfl (List.Mem.head _) ?_
      obtain ⟨f6, hv⟩ := hv
      refine jg_getr dX3_beginOfRecord_64 fl_RX3_56 rfl c1 f6 ?_
      obtain ⟨f7, hv⟩ := hv
      obtain ⟨f8, hv⟩ := hv
      refine jg_getl dX3_beginOfRecord_67 fl_RX3_97 rfl f7 f8 ?_
      exact jg_lret dX3_beginOfRecord_70 rfl hv
    · replace hv := hv.2 c5
      refine jg_aload_n dX3_beginOfRecord_51 rfl (List.Mem.tail _ (List.Mem.head _)) ?_
      obtain ⟨f9, hv⟩ := hv
      refine jg_getl dX3_beginOfRecord_52 fl_RX3_15 rfl jsn f9 ?_
      refine jg_bipush (v := 8) dX3_beginOfRecord_55 (by decide) ?_
      refine jg_callS mX3_roundUp [.inr (.inl (jl h 65 a0)), .inl (8)] [] dX3_beginOfRecord_57 rfl cl_RX3_93 ⟨⟨by decide, by decide⟩, by decide⟩ (Nat.zero_le _) (Nat.zero_le _) (jM.mono (jkl_k (fun r10 h11 hv => ?_)) hv)
      refine jg_goto (tgt := 70) dX3_beginOfRecord_60 (by decide) ?_
      exact jg_lret dX3_beginOfRecord_70 rfl hv
def VX3_beginOfRecord_0 (g : jg) (a0 : Nat) (o1 : Option Nat) (h : jh) (k n : Nat) (Q : jq) : Prop := (¬ (o1) = none) ∧ (jt h (jd (o1)) = 1) ∧ (((jr h 17 (jd (o1))) = none → ((¬ (ji h 19 (jd (o1))) = ((-1)) → (jt h a0 = 2) ∧ (¬ (jr h 64 a0) = none) ∧ (jt h (jd (jr h 64 a0)) = 7) ∧ jM g mX8_firstOfName [.inr (.inr (some (jd (jr h 64 a0)))), .inl (ji h 19 (jd (o1)))] h 0 0 (jkr (fun (r19 : Option Nat) (h20 : jh) => VX3_beginOfRecord_41 g (a0) (o1) (r19) h20 k n Q) (fun e h9 => Q (.inr e) h9))) ∧ ((ji h 19 (jd (o1))) = ((-1)) → VX3_beginOfRecord_41 g (a0) (o1) (none) h k n Q))) ∧ (¬ (jr h 17 (jd (o1))) = none → (jt h (jd (jr h 17 (jd (o1)))) = 1) ∧ (¬ (jr h 7 (jd (jr h 17 (jd (o1))))) = none) ∧ (jt h (jd (jr h 7 (jd (jr h 17 (jd (o1)))))) = 4) ∧ Q (.inl (some (.inr (.inl (jl h 192 (jd (jr h 7 (jd (jr h 17 (jd (o1))))))))))) h))
set_option maxRecDepth 20000 in
theorem vX3_beginOfRecord_0 {g : jg} {a0 : Nat} {o1 : Option Nat} {h : jh} {k n : Nat} {Q : jq} (hv : VX3_beginOfRecord_0 g a0 o1 h k n Q) : jG g mX3_beginOfRecord 0 [(0, .inr (.inr (some (a0)))), (1, .inr (.inr (o1)))] [] h k n Q := by
  unfold VX3_beginOfRecord_0 at hv
  refine jg_aload_n dX3_beginOfRecord_0 rfl (List.Mem.tail _ (List.Mem.head _)) ?_
  obtain ⟨f12, hv⟩ := hv
  obtain ⟨f13, hv⟩ := hv
  refine jg_getr dX3_beginOfRecord_1 fl_RX3_104 rfl f12 f13 ?_
  refine jg_ifnull (tgt := 18) dX3_beginOfRecord_4 (by decide) (fun c14 => ?_) (fun c14 => ?_)
  · replace hv := hv.1 c14
    refine jg_aload_n dX3_beginOfRecord_18 rfl (List.Mem.tail _ (List.Mem.head _)) ?_
    refine jg_geti dX3_beginOfRecord_19 fl_RX3_114 rfl f12 f13 ?_
    refine jg_iconst (v := (-1)) dX3_beginOfRecord_22 (by decide) ?_
    refine jg_icmp_ne (tgt := 30) dX3_beginOfRecord_23 (by decide) (fun c15 => ?_) (fun c15 => ?_)
    · replace hv := hv.1 c15
      refine jg_aload_n dX3_beginOfRecord_30 rfl (List.Mem.head _) ?_
      obtain ⟨f16, hv⟩ := hv
      refine jg_getr dX3_beginOfRecord_31 fl_RX3_9 rfl jsn f16 ?_
      refine jg_aload_n dX3_beginOfRecord_34 rfl (List.Mem.tail _ (List.Mem.head _)) ?_
      refine jg_geti dX3_beginOfRecord_35 fl_RX3_114 rfl f12 f13 ?_
      obtain ⟨f17, hv⟩ := hv
      obtain ⟨f18, hv⟩ := hv
      refine jp_callV mX8_firstOfName [.inl (ji h 19 (jd (o1)))] [] dX3_beginOfRecord_38 rfl cl_RX3_117 ⟨⟨by decide, by decide⟩, by decide⟩ f17 f18 (Nat.zero_le _) (Nat.zero_le _) (jM.mono (jkr_k (fun r19 h20 hv => ?_)) hv)
      exact vX3_beginOfRecord_41 hv
    · replace hv := hv.2 c15
      refine jg_null dX3_beginOfRecord_26 ?_
      refine jg_goto (tgt := 41) dX3_beginOfRecord_27 (by decide) ?_
      exact vX3_beginOfRecord_41 hv
  · replace hv := hv.2 c14
    refine jg_aload_n dX3_beginOfRecord_7 rfl (List.Mem.tail _ (List.Mem.head _)) ?_
    refine jg_getr dX3_beginOfRecord_8 fl_RX3_104 rfl f12 f13 ?_
    obtain ⟨f21, hv⟩ := hv
    refine jg_getr dX3_beginOfRecord_11 fl_RX3_56 rfl c14 f21 ?_
    obtain ⟨f22, hv⟩ := hv
    obtain ⟨f23, hv⟩ := hv
    refine jg_getl dX3_beginOfRecord_14 fl_RX3_97 rfl f22 f23 ?_
    exact jg_lret dX3_beginOfRecord_17 rfl hv
theorem eX3_beginOfRecord {g : jg} {a0 : Nat} {o1 : Option Nat} {h : jh} {mc ms : Nat} {Q : jq} (hv : VX3_beginOfRecord_0 g a0 o1 h mc ms Q) : jM g mX3_beginOfRecord [.inr (.inr (some (a0))), .inr (.inr (o1))] h mc ms Q := jM.of (by decide) (Nat.le_of_ble_eq_true rfl) (lv := [(0, .inr (.inr (some (a0)))), (1, .inr (.inr (o1)))]) rfl (vX3_beginOfRecord_0 hv)
theorem dX3_beginBelow_0 : decode cX3_beginBelow 0 = .ok (.aload_n 0, 1) := by decide +kernel
theorem dX3_beginBelow_1 : decode cX3_beginBelow 1 = .ok (.getfield 104, 3) := by decide +kernel
theorem dX3_beginBelow_4 : decode cX3_beginBelow 4 = .ok (.ifnull 16, 3) := by decide +kernel
theorem dX3_beginBelow_7 : decode cX3_beginBelow 7 = .ok (.aload_n 0, 1) := by decide +kernel
theorem dX3_beginBelow_8 : decode cX3_beginBelow 8 = .ok (.getfield 104, 3) := by decide +kernel
theorem dX3_beginBelow_11 : decode cX3_beginBelow 11 = .ok (.getfield 56, 3) := by decide +kernel
theorem dX3_beginBelow_14 : decode cX3_beginBelow 14 = .ok (.getfield 97, 3) := by decide +kernel
theorem dX3_beginBelow_17 : decode cX3_beginBelow 17 = .ok (.goto 10, 3) := by decide +kernel
theorem dX3_beginBelow_20 : decode cX3_beginBelow 20 = .ok (.aload_n 1, 1) := by decide +kernel
theorem dX3_beginBelow_21 : decode cX3_beginBelow 21 = .ok (.getfield 56, 3) := by decide +kernel
theorem dX3_beginBelow_24 : decode cX3_beginBelow 24 = .ok (.getfield 103, 3) := by decide +kernel
theorem dX3_beginBelow_27 : decode cX3_beginBelow 27 = .ok (.lreturn, 1) := by decide +kernel
def VX3_beginBelow_0 (g : jg) (o0 : Option Nat) (o1 : Option Nat) (h : jh) (k n : Nat) (Q : jq) : Prop := (¬ (o0) = none) ∧ (jt h (jd (o0)) = 1) ∧ (((jr h 17 (jd (o0))) = none → (¬ (o1) = none) ∧ (jt h (jd (o1)) = 1) ∧ (¬ (jr h 7 (jd (o1))) = none) ∧ (jt h (jd (jr h 7 (jd (o1)))) = 4) ∧ Q (.inl (some (.inr (.inl (jl h 193 (jd (jr h 7 (jd (o1))))))))) h) ∧ (¬ (jr h 17 (jd (o0))) = none → (jt h (jd (jr h 17 (jd (o0)))) = 1) ∧ (¬ (jr h 7 (jd (jr h 17 (jd (o0))))) = none) ∧ (jt h (jd (jr h 7 (jd (jr h 17 (jd (o0)))))) = 4) ∧ Q (.inl (some (.inr (.inl (jl h 192 (jd (jr h 7 (jd (jr h 17 (jd (o0))))))))))) h))
set_option maxRecDepth 20000 in
theorem vX3_beginBelow_0 {g : jg} {o0 : Option Nat} {o1 : Option Nat} {h : jh} {k n : Nat} {Q : jq} (hv : VX3_beginBelow_0 g o0 o1 h k n Q) : jG g mX3_beginBelow 0 [(0, .inr (.inr (o0))), (1, .inr (.inr (o1)))] [] h k n Q := by
  unfold VX3_beginBelow_0 at hv
  refine jg_aload_n dX3_beginBelow_0 rfl (List.Mem.head _) ?_
  obtain ⟨f1, hv⟩ := hv
  obtain ⟨f2, hv⟩ := hv
  refine jg_getr dX3_beginBelow_1 fl_RX3_104 rfl f1 f2 ?_
  refine jg_ifnull (tgt := 20) dX3_beginBelow_4 (by decide) (fun c3 => ?_) (fun c3 => ?_)
  · replace hv := hv.1 c3
    refine jg_aload_n dX3_beginBelow_20 rfl (List.Mem.tail _ (List.Mem.head _)) ?_
    obtain ⟨f4, hv⟩ := hv
    obtain ⟨f5, hv⟩ := hv
    refine jg_getr dX3_beginBelow_21 fl_RX3_56 rfl f4 f5 ?_
    obtain ⟨f6, hv⟩ := hv
    obtain ⟨f7, hv⟩ := hv
    refine jg_getl dX3_beginBelow_24 fl_RX3_103 rfl f6 f7 ?_
    exact jg_lret dX3_beginBelow_27 rfl hv
  · replace hv := hv.2 c3
    refine jg_aload_n dX3_beginBelow_7 rfl (List.Mem.head _) ?_
    refine jg_getr dX3_beginBelow_8 fl_RX3_104 rfl f1 f2 ?_
    obtain ⟨f8, hv⟩ := hv
    refine jg_getr dX3_beginBelow_11 fl_RX3_56 rfl c3 f8 ?_
    obtain ⟨f9, hv⟩ := hv
    obtain ⟨f10, hv⟩ := hv
    refine jg_getl dX3_beginBelow_14 fl_RX3_97 rfl f9 f10 ?_
    refine jg_goto (tgt := 27) dX3_beginBelow_17 (by decide) ?_
    exact jg_lret dX3_beginBelow_27 rfl hv
theorem eX3_beginBelow {g : jg} {o0 : Option Nat} {o1 : Option Nat} {h : jh} {mc ms : Nat} {Q : jq} (hv : VX3_beginBelow_0 g o0 o1 h mc ms Q) : jM g mX3_beginBelow [.inr (.inr (o0)), .inr (.inr (o1))] h mc ms Q := jM.of (by decide) (Nat.le_of_ble_eq_true rfl) (lv := [(0, .inr (.inr (o0))), (1, .inr (.inr (o1)))]) rfl (vX3_beginBelow_0 hv)
theorem dX3_isLaterExternal_0 : decode cX3_isLaterExternal 0 = .ok (.aload_n 1, 1) := by decide +kernel
theorem dX3_isLaterExternal_1 : decode cX3_isLaterExternal 1 = .ok (.getfield 114, 3) := by decide +kernel
theorem dX3_isLaterExternal_4 : decode cX3_isLaterExternal 4 = .ok (.iconst (-1), 1) := by decide +kernel
theorem dX3_isLaterExternal_5 : decode cX3_isLaterExternal 5 = .ok (.if_icmp .eq 22, 3) := by decide +kernel
theorem dX3_isLaterExternal_8 : decode cX3_isLaterExternal 8 = .ok (.aload_n 0, 1) := by decide +kernel
theorem dX3_isLaterExternal_9 : decode cX3_isLaterExternal 9 = .ok (.getfield 9, 3) := by decide +kernel
theorem dX3_isLaterExternal_12 : decode cX3_isLaterExternal 12 = .ok (.aload_n 1, 1) := by decide +kernel
theorem dX3_isLaterExternal_13 : decode cX3_isLaterExternal 13 = .ok (.getfield 114, 3) := by decide +kernel
theorem dX3_isLaterExternal_16 : decode cX3_isLaterExternal 16 = .ok (.invokevirtual 117, 3) := by decide +kernel
theorem dX3_isLaterExternal_19 : decode cX3_isLaterExternal 19 = .ok (.aload_n 1, 1) := by decide +kernel
theorem dX3_isLaterExternal_20 : decode cX3_isLaterExternal 20 = .ok (.if_acmp .eq 7, 3) := by decide +kernel
theorem dX3_isLaterExternal_23 : decode cX3_isLaterExternal 23 = .ok (.iconst 1, 1) := by decide +kernel
theorem dX3_isLaterExternal_24 : decode cX3_isLaterExternal 24 = .ok (.goto 4, 3) := by decide +kernel
theorem dX3_isLaterExternal_27 : decode cX3_isLaterExternal 27 = .ok (.iconst 0, 1) := by decide +kernel
theorem dX3_isLaterExternal_28 : decode cX3_isLaterExternal 28 = .ok (.ireturn, 1) := by decide +kernel
def VX3_isLaterExternal_0 (g : jg) (a0 : Nat) (o1 : Option Nat) (h : jh) (k n : Nat) (Q : jq) : Prop := (¬ (o1) = none) ∧ (jt h (jd (o1)) = 1) ∧ (((ji h 19 (jd (o1))) = ((-1)) → Q (.inl (some (.inl (0)))) h) ∧ (¬ (ji h 19 (jd (o1))) = ((-1)) → (jt h a0 = 2) ∧ (¬ (jr h 64 a0) = none) ∧ (jt h (jd (jr h 64 a0)) = 7) ∧ jM g mX8_firstOfName [.inr (.inr (some (jd (jr h 64 a0)))), .inl (ji h 19 (jd (o1)))] h 0 0 (jkr (fun (r7 : Option Nat) (h8 : jh) => (((r7) = (o1) → Q (.inl (some (.inl (0)))) h8) ∧ (¬ (r7) = (o1) → Q (.inl (some (.inl (1)))) h8))) (fun e h9 => Q (.inr e) h9))))
set_option maxRecDepth 20000 in
theorem vX3_isLaterExternal_0 {g : jg} {a0 : Nat} {o1 : Option Nat} {h : jh} {k n : Nat} {Q : jq} (hv : VX3_isLaterExternal_0 g a0 o1 h k n Q) : jG g mX3_isLaterExternal 0 [(0, .inr (.inr (some (a0)))), (1, .inr (.inr (o1)))] [] h k n Q := by
  unfold VX3_isLaterExternal_0 at hv
  refine jg_aload_n dX3_isLaterExternal_0 rfl (List.Mem.tail _ (List.Mem.head _)) ?_
  obtain ⟨f1, hv⟩ := hv
  obtain ⟨f2, hv⟩ := hv
  refine jg_geti dX3_isLaterExternal_1 fl_RX3_114 rfl f1 f2 ?_
  refine jg_iconst (v := (-1)) dX3_isLaterExternal_4 (by decide) ?_
  refine jg_icmp_eq (tgt := 27) dX3_isLaterExternal_5 (by decide) (fun c3 => ?_) (fun c3 => ?_)
  · replace hv := hv.1 c3
    refine jg_iconst (v := 0) dX3_isLaterExternal_27 (by decide) ?_
    exact jg_bret dX3_isLaterExternal_28 rfl (by decide) hv
  · replace hv := hv.2 c3
    refine jg_aload_n dX3_isLaterExternal_8 rfl (List.Mem.head _) ?_
    obtain ⟨f4, hv⟩ := hv
    refine jg_getr dX3_isLaterExternal_9 fl_RX3_9 rfl jsn f4 ?_
    refine jg_aload_n dX3_isLaterExternal_12 rfl (List.Mem.tail _ (List.Mem.head _)) ?_
    refine jg_geti dX3_isLaterExternal_13 fl_RX3_114 rfl f1 f2 ?_
    obtain ⟨f5, hv⟩ := hv
    obtain ⟨f6, hv⟩ := hv
    refine jp_callV mX8_firstOfName [.inl (ji h 19 (jd (o1)))] [] dX3_isLaterExternal_16 rfl cl_RX3_117 ⟨⟨by decide, by decide⟩, by decide⟩ f5 f6 (Nat.zero_le _) (Nat.zero_le _) (jM.mono (jkr_k (fun r7 h8 hv => ?_)) hv)
    refine jg_aload_n dX3_isLaterExternal_19 rfl (List.Mem.tail _ (List.Mem.head _)) ?_
    refine jg_acmp_eq (tgt := 27) dX3_isLaterExternal_20 (by decide) (fun c9 => ?_) (fun c9 => ?_)
    · replace hv := hv.1 c9
      refine jg_iconst (v := 0) dX3_isLaterExternal_27 (by decide) ?_
      exact jg_bret dX3_isLaterExternal_28 rfl (by decide) hv
    · replace hv := hv.2 c9
      refine jg_iconst (v := 1) dX3_isLaterExternal_23 (by decide) ?_
      refine jg_goto (tgt := 28) dX3_isLaterExternal_24 (by decide) ?_
      exact jg_bret dX3_isLaterExternal_28 rfl (by decide) hv
theorem eX3_isLaterExternal {g : jg} {a0 : Nat} {o1 : Option Nat} {h : jh} {mc ms : Nat} {Q : jq} (hv : VX3_isLaterExternal_0 g a0 o1 h mc ms Q) : jM g mX3_isLaterExternal [.inr (.inr (some (a0))), .inr (.inr (o1))] h mc ms Q := jM.of (by decide) (Nat.le_of_ble_eq_true rfl) (lv := [(0, .inr (.inr (some (a0)))), (1, .inr (.inr (o1)))]) rfl (vX3_isLaterExternal_0 hv)
theorem dX3_finishUpTo_0 : decode cX3_finishUpTo 0 = .ok (.aload_n 1, 1) := by decide +kernel
theorem dX3_finishUpTo_1 : decode cX3_finishUpTo 1 = .ok (.astore_n 3, 1) := by decide +kernel
theorem dX3_finishUpTo_2 : decode cX3_finishUpTo 2 = .ok (.aload_n 3, 1) := by decide +kernel
theorem dX3_finishUpTo_3 : decode cX3_finishUpTo 3 = .ok (.ifnull 21, 3) := by decide +kernel
theorem dX3_finishUpTo_6 : decode cX3_finishUpTo 6 = .ok (.aload_n 3, 1) := by decide +kernel
theorem dX3_finishUpTo_7 : decode cX3_finishUpTo 7 = .ok (.aload_n 2, 1) := by decide +kernel
theorem dX3_finishUpTo_8 : decode cX3_finishUpTo 8 = .ok (.if_acmp .eq 16, 3) := by decide +kernel
theorem dX3_finishUpTo_11 : decode cX3_finishUpTo 11 = .ok (.aload_n 0, 1) := by decide +kernel
theorem dX3_finishUpTo_12 : decode cX3_finishUpTo 12 = .ok (.aload_n 3, 1) := by decide +kernel
theorem dX3_finishUpTo_13 : decode cX3_finishUpTo 13 = .ok (.invokevirtual 121, 3) := by decide +kernel
theorem dX3_finishUpTo_16 : decode cX3_finishUpTo 16 = .ok (.aload_n 3, 1) := by decide +kernel
theorem dX3_finishUpTo_17 : decode cX3_finishUpTo 17 = .ok (.getfield 38, 3) := by decide +kernel
theorem dX3_finishUpTo_20 : decode cX3_finishUpTo 20 = .ok (.astore_n 3, 1) := by decide +kernel
theorem dX3_finishUpTo_21 : decode cX3_finishUpTo 21 = .ok (.goto (-19), 3) := by decide +kernel
theorem dX3_finishUpTo_24 : decode cX3_finishUpTo 24 = .ok (.return_, 1) := by decide +kernel
def VX3_finishUpTo_2 (g : jg) (a0 : Nat) (o2 : Option Nat) (o3 : Option Nat) (h : jh) (k n : Nat) (Q : jq) : Prop := (((o3) = none → Q (.inl none) h) ∧ (¬ (o3) = none → (((o3) = (o2) → Q (.inl none) h) ∧ (¬ (o3) = (o2) → (jt h a0 = 2) ∧ jM g mX3_finish [.inr (.inr (some a0)), .inr (.inr (o3))] h 0 0 (jkv (fun (h5 : jh) => (jt h5 (jd (o3)) = 1) ∧ jG g mX3_finishUpTo 2 [(0, .inr (.inr (some (a0)))), (2, .inr (.inr (o2))), (3, .inr (.inr (jr h5 5 (jd (o3)))))] [] h5 k n Q) (fun e h9 => Q (.inr e) h9))))))
set_option maxRecDepth 20000 in
theorem vX3_finishUpTo_2 {g : jg} {a0 : Nat} {o2 : Option Nat} {o3 : Option Nat} {h : jh} {k n : Nat} {Q : jq} (hv : VX3_finishUpTo_2 g a0 o2 o3 h k n Q) : jG g mX3_finishUpTo 2 [(0, .inr (.inr (some (a0)))), (2, .inr (.inr (o2))), (3, .inr (.inr (o3)))] [] h k n Q := by
  unfold VX3_finishUpTo_2 at hv
  refine jg_aload_n dX3_finishUpTo_2 rfl (List.Mem.tail _ (List.Mem.tail _ (List.Mem.head _))) ?_
  refine jg_ifnull (tgt := 24) dX3_finishUpTo_3 (by decide) (fun c1 => ?_) (fun c1 => ?_)
  · replace hv := hv.1 c1
    exact jg_vret dX3_finishUpTo_24 rfl hv
  · replace hv := hv.2 c1
    refine jg_aload_n dX3_finishUpTo_6 rfl (List.Mem.tail _ (List.Mem.tail _ (List.Mem.head _))) ?_
    refine jg_aload_n dX3_finishUpTo_7 rfl (List.Mem.tail _ (List.Mem.head _)) ?_
    refine jg_acmp_eq (tgt := 24) dX3_finishUpTo_8 (by decide) (fun c2 => ?_) (fun c2 => ?_)
    · replace hv := hv.1 c2
      exact jg_vret dX3_finishUpTo_24 rfl hv
    · replace hv := hv.2 c2
      refine jg_aload_n dX3_finishUpTo_11 rfl (List.Mem.head _) ?_
      refine jg_aload_n dX3_finishUpTo_12 rfl (List.Mem.tail _ (List.Mem.tail _ (List.Mem.head _))) ?_
      obtain ⟨f3, hv⟩ := hv
      refine jp_callV mX3_finish [.inr (.inr (o3))] [] dX3_finishUpTo_13 rfl cl_RX3_121 ⟨⟨by decide, by decide⟩, by decide⟩ jsn f3 (Nat.zero_le _) (Nat.zero_le _) (jM.mono (jkv_k (fun h5 hv => ?_)) hv)
      refine jg_aload_n dX3_finishUpTo_16 rfl (List.Mem.tail _ (List.Mem.tail _ (List.Mem.head _))) ?_
      obtain ⟨f6, hv⟩ := hv
      refine jg_getr dX3_finishUpTo_17 fl_RX3_38 rfl c1 f6 ?_
      refine jg_astore_n (lv' := [(3, .inr (.inr (jr h5 5 (jd (o3))))), (0, .inr (.inr (some (a0)))), (2, .inr (.inr (o2)))]) dX3_finishUpTo_20 rfl (by decide) rfl ?_
      refine jg_goto (tgt := 2) dX3_finishUpTo_21 (by decide) ?_
      refine jG.sub (lv' := [(0, .inr (.inr (some (a0)))), (2, .inr (.inr (o2))), (3, .inr (.inr (jr h5 5 (jd (o3)))))]) (by simp) ?_
      exact hv
def VX3_finishUpTo_0 (g : jg) (a0 : Nat) (o1 : Option Nat) (o2 : Option Nat) (h : jh) (k n : Nat) (Q : jq) : Prop := jG g mX3_finishUpTo 2 [(0, .inr (.inr (some (a0)))), (2, .inr (.inr (o2))), (3, .inr (.inr (o1)))] [] h k n Q
set_option maxRecDepth 20000 in
theorem vX3_finishUpTo_0 {g : jg} {a0 : Nat} {o1 : Option Nat} {o2 : Option Nat} {h : jh} {k n : Nat} {Q : jq} (hv : VX3_finishUpTo_0 g a0 o1 o2 h k n Q) : jG g mX3_finishUpTo 0 [(0, .inr (.inr (some (a0)))), (1, .inr (.inr (o1))), (2, .inr (.inr (o2)))] [] h k n Q := by
  unfold VX3_finishUpTo_0 at hv
  refine jg_aload_n dX3_finishUpTo_0 rfl (List.Mem.tail _ (List.Mem.head _)) ?_
  refine jg_astore_n (lv' := [(3, .inr (.inr (o1))), (0, .inr (.inr (some (a0)))), (1, .inr (.inr (o1))), (2, .inr (.inr (o2)))]) dX3_finishUpTo_1 rfl (by decide) rfl ?_
  refine jG.sub (lv' := [(0, .inr (.inr (some (a0)))), (2, .inr (.inr (o2))), (3, .inr (.inr (o1)))]) (by simp) ?_
  exact hv
theorem eX3_finishUpTo {g : jg} {a0 : Nat} {o1 : Option Nat} {o2 : Option Nat} {h : jh} {mc ms : Nat} {Q : jq} (hv : VX3_finishUpTo_0 g a0 o1 o2 h mc ms Q) : jM g mX3_finishUpTo [.inr (.inr (some (a0))), .inr (.inr (o1)), .inr (.inr (o2))] h mc ms Q := jM.of (by decide) (Nat.le_of_ble_eq_true rfl) (lv := [(0, .inr (.inr (some (a0)))), (1, .inr (.inr (o1))), (2, .inr (.inr (o2)))]) rfl (vX3_finishUpTo_0 hv)
theorem dX3_finish_0 : decode cX3_finish 0 = .ok (.aload_n 1, 1) := by decide +kernel
theorem dX3_finish_1 : decode cX3_finish 1 = .ok (.getfield 90, 3) := by decide +kernel
theorem dX3_finish_4 : decode cX3_finish 4 = .ok (.ifnull 24, 3) := by decide +kernel
theorem dX3_finish_7 : decode cX3_finish 7 = .ok (.aload_n 1, 1) := by decide +kernel
theorem dX3_finish_8 : decode cX3_finish 8 = .ok (.getfield 90, 3) := by decide +kernel
theorem dX3_finish_11 : decode cX3_finish 11 = .ok (.aload_n 1, 1) := by decide +kernel
theorem dX3_finish_12 : decode cX3_finish 12 = .ok (.invokevirtual 124, 3) := by decide +kernel
theorem dX3_finish_15 : decode cX3_finish 15 = .ok (.aload_n 1, 1) := by decide +kernel
theorem dX3_finish_16 : decode cX3_finish 16 = .ok (.getfield 56, 3) := by decide +kernel
theorem dX3_finish_19 : decode cX3_finish 19 = .ok (.getfield 60, 3) := by decide +kernel
theorem dX3_finish_22 : decode cX3_finish 22 = .ok (.invokestatic 93, 3) := by decide +kernel
theorem dX3_finish_25 : decode cX3_finish 25 = .ok (.putfield 128, 3) := by decide +kernel
theorem dX3_finish_28 : decode cX3_finish 28 = .ok (.aload_n 1, 1) := by decide +kernel
theorem dX3_finish_29 : decode cX3_finish 29 = .ok (.getfield 56, 3) := by decide +kernel
theorem dX3_finish_32 : decode cX3_finish 32 = .ok (.getfield 97, 3) := by decide +kernel
theorem dX3_finish_35 : decode cX3_finish 35 = .ok (.aload_n 1, 1) := by decide +kernel
theorem dX3_finish_36 : decode cX3_finish 36 = .ok (.invokevirtual 133, 3) := by decide +kernel
theorem dX3_finish_39 : decode cX3_finish 39 = .ok (.ladd, 1) := by decide +kernel
theorem dX3_finish_40 : decode cX3_finish 40 = .ok (.lstore_n 2, 1) := by decide +kernel
theorem dX3_finish_41 : decode cX3_finish 41 = .ok (.aload_n 1, 1) := by decide +kernel
theorem dX3_finish_42 : decode cX3_finish 42 = .ok (.getfield 38, 3) := by decide +kernel
theorem dX3_finish_45 : decode cX3_finish 45 = .ok (.ifnonnull 18, 3) := by decide +kernel
theorem dX3_finish_48 : decode cX3_finish 48 = .ok (.aload_n 0, 1) := by decide +kernel
theorem dX3_finish_49 : decode cX3_finish 49 = .ok (.aload_n 0, 1) := by decide +kernel
theorem dX3_finish_50 : decode cX3_finish 50 = .ok (.getfield 15, 3) := by decide +kernel
theorem dX3_finish_53 : decode cX3_finish 53 = .ok (.lload_n 2, 1) := by decide +kernel
theorem dX3_finish_54 : decode cX3_finish 54 = .ok (.invokestatic 136, 3) := by decide +kernel
theorem dX3_finish_57 : decode cX3_finish 57 = .ok (.putfield 15, 3) := by decide +kernel
theorem dX3_finish_60 : decode cX3_finish 60 = .ok (.goto 34, 3) := by decide +kernel
theorem dX3_finish_63 : decode cX3_finish 63 = .ok (.aload_n 1, 1) := by decide +kernel
theorem dX3_finish_64 : decode cX3_finish 64 = .ok (.getfield 104, 3) := by decide +kernel
theorem dX3_finish_67 : decode cX3_finish 67 = .ok (.ifnonnull 27, 3) := by decide +kernel
theorem dX3_finish_70 : decode cX3_finish 70 = .ok (.aload_n 1, 1) := by decide +kernel
theorem dX3_finish_71 : decode cX3_finish 71 = .ok (.getfield 38, 3) := by decide +kernel
theorem dX3_finish_74 : decode cX3_finish 74 = .ok (.getfield 56, 3) := by decide +kernel
theorem dX3_finish_77 : decode cX3_finish 77 = .ok (.aload_n 1, 1) := by decide +kernel
theorem dX3_finish_78 : decode cX3_finish 78 = .ok (.getfield 38, 3) := by decide +kernel
theorem dX3_finish_81 : decode cX3_finish 81 = .ok (.getfield 56, 3) := by decide +kernel
theorem dX3_finish_84 : decode cX3_finish 84 = .ok (.getfield 103, 3) := by decide +kernel
theorem dX3_finish_87 : decode cX3_finish 87 = .ok (.lload_n 2, 1) := by decide +kernel
theorem dX3_finish_88 : decode cX3_finish 88 = .ok (.invokestatic 136, 3) := by decide +kernel
theorem dX3_finish_91 : decode cX3_finish 91 = .ok (.putfield 103, 3) := by decide +kernel
theorem dX3_finish_94 : decode cX3_finish 94 = .ok (.return_, 1) := by decide +kernel
def VX3_finish_28 (g : jg) (a0 : Nat) (o1 : Option Nat) (h : jh) (k n : Nat) (Q : jq) : Prop := (¬ (o1) = none) ∧ (jt h (jd (o1)) = 1) ∧ (¬ (jr h 7 (jd (o1))) = none) ∧ (jt h (jd (jr h 7 (jd (o1)))) = 4) ∧ jM g mX0_extent [.inr (.inr (some (jd (o1))))] h 0 0 (jkl (fun (r5 : Int64) (h6 : jh) => (jt h6 (jd (o1)) = 1) ∧ ((¬ (jr h6 5 (jd (o1))) = none → ((¬ (jr h6 17 (jd (o1))) = none → Q (.inl none) h6) ∧ ((jr h6 17 (jd (o1))) = none → (jt h6 (jd (jr h6 5 (jd (o1)))) = 1) ∧ (¬ (jr h6 7 (jd (jr h6 5 (jd (o1))))) = none) ∧ (jt h6 (jd (jr h6 7 (jd (jr h6 5 (jd (o1)))))) = 4) ∧ ∀ h13 : jh, h13 = jsl h6 193 (jd (jr h6 7 (jd (jr h6 5 (jd (o1)))))) (if ((jl h 192 (jd (jr h 7 (jd (o1))))) + (r5)) < (jl h6 193 (jd (jr h6 7 (jd (jr h6 5 (jd (o1))))))) then (jl h6 193 (jd (jr h6 7 (jd (jr h6 5 (jd (o1))))))) else ((jl h 192 (jd (jr h 7 (jd (o1))))) + (r5))) → Q (.inl none) h13))) ∧ ((jr h6 5 (jd (o1))) = none → (jt h6 a0 = 2) ∧ ∀ h16 : jh, h16 = jsl h6 65 a0 (if ((jl h 192 (jd (jr h 7 (jd (o1))))) + (r5)) < (jl h6 65 a0) then (jl h6 65 a0) else ((jl h 192 (jd (jr h 7 (jd (o1))))) + (r5))) → Q (.inl none) h16))) (fun e h9 => Q (.inr e) h9))
set_option maxRecDepth 20000 in
theorem vX3_finish_28 {g : jg} {a0 : Nat} {o1 : Option Nat} {h : jh} {k n : Nat} {Q : jq} (hv : VX3_finish_28 g a0 o1 h k n Q) : jG g mX3_finish 28 [(0, .inr (.inr (some (a0)))), (1, .inr (.inr (o1)))] [] h k n Q := by
  unfold VX3_finish_28 at hv
  refine jg_aload_n dX3_finish_28 rfl (List.Mem.tail _ (List.Mem.head _)) ?_
  obtain ⟨f1, hv⟩ := hv
  obtain ⟨f2, hv⟩ := hv
  refine jg_getr dX3_finish_29 fl_RX3_56 rfl f1 f2 ?_
  obtain ⟨f3, hv⟩ := hv
  obtain ⟨f4, hv⟩ := hv
  refine jg_getl dX3_finish_32 fl_RX3_97 rfl f3 f4 ?_
  refine jg_aload_n dX3_finish_35 rfl (List.Mem.tail _ (List.Mem.head _)) ?_
  refine jp_callV mX0_extent [] [.inr (.inl (jl h 192 (jd (jr h 7 (jd (o1))))))] dX3_finish_36 rfl cl_RX3_133 ⟨⟨by decide, by decide⟩, jcat_le _ (Nat.le_of_ble_eq_true rfl)⟩ f1 f2 (Nat.zero_le _) (Nat.zero_le _) (jM.mono (jkl_k (fun r5 h6 hv => ?_)) hv)
  refine jg_ladd dX3_finish_39 ?_
  refine jg_lstore_n (lv' := [(2, .inr (.inl ((jl h 192 (jd (jr h 7 (jd (o1))))) + (r5)))), (0, .inr (.inr (some (a0)))), (1, .inr (.inr (o1)))]) dX3_finish_40 rfl (by decide) rfl ?_
  refine jg_aload_n dX3_finish_41 rfl (List.Mem.tail _ (List.Mem.tail _ (List.Mem.head _))) ?_
  obtain ⟨f7, hv⟩ := hv
  refine jg_getr dX3_finish_42 fl_RX3_38 rfl f1 f7 ?_
  refine jg_ifnonnull (tgt := 63) dX3_finish_45 (by decide) (fun c8 => ?_) (fun c8 => ?_)
  · replace hv := hv.1 c8
    refine jg_aload_n dX3_finish_63 rfl (List.Mem.tail _ (List.Mem.tail _ (List.Mem.head _))) ?_
    refine jg_getr dX3_finish_64 fl_RX3_104 rfl f1 f7 ?_
    refine jg_ifnonnull (tgt := 94) dX3_finish_67 (by decide) (fun c9 => ?_) (fun c9 => ?_)
    · replace hv := hv.1 c9
      exact jg_vret dX3_finish_94 rfl hv
    · replace hv := hv.2 c9
      refine jg_aload_n dX3_finish_70 rfl (List.Mem.tail _ (List.Mem.tail _ (List.Mem.head _))) ?_
      refine jg_getr dX3_finish_71 fl_RX3_38 rfl f1 f7 ?_
      obtain ⟨f10, hv⟩ := hv
      refine jg_getr dX3_finish_74 fl_RX3_56 rfl c8 f10 ?_
      refine jg_aload_n dX3_finish_77 rfl (List.Mem.tail _ (List.Mem.tail _ (List.Mem.head _))) ?_
      refine jg_getr dX3_finish_78 fl_RX3_38 rfl f1 f7 ?_
      refine jg_getr dX3_finish_81 fl_RX3_56 rfl c8 f10 ?_
      obtain ⟨f11, hv⟩ := hv
      obtain ⟨f12, hv⟩ := hv
      refine jg_getl dX3_finish_84 fl_RX3_103 rfl f11 f12 ?_
      refine jg_lload_n dX3_finish_87 rfl (List.Mem.head _) ?_
      refine jg_mmaxl dX3_finish_88 ma_RX3_136 ma_maxl1 ma_0 ma_maxl2 (by decide) (jcat_le _ (Nat.le_of_ble_eq_true rfl)) (by decide) ?_
      obtain ⟨h13, e14⟩ : ∃ z : jh, z = jsl h6 193 (jd (jr h6 7 (jd (jr h6 5 (jd (o1)))))) (if ((jl h 192 (jd (jr h 7 (jd (o1))))) + (r5)) < (jl h6 193 (jd (jr h6 7 (jd (jr h6 5 (jd (o1))))))) then (jl h6 193 (jd (jr h6 7 (jd (jr h6 5 (jd (o1))))))) else ((jl h 192 (jd (jr h 7 (jd (o1))))) + (r5))) := ⟨_, rfl⟩
      replace hv := hv h13 e14
      refine jp_putl dX3_finish_91 (jfp.nf fl_RX3_103 (fun q hq => by cases hq; rfl)) rfl f11 f12 e14 ?_
      exact jg_vret dX3_finish_94 rfl hv
  · replace hv := hv.2 c8
    refine jg_aload_n dX3_finish_48 rfl (List.Mem.tail _ (List.Mem.head _)) ?_
    refine jg_aload_n dX3_finish_49 rfl (List.Mem.tail _ (List.Mem.head _)) ?_
    obtain ⟨f15, hv⟩ := hv
    refine jg_getl dX3_finish_50 fl_RX3_15 rfl jsn f15 ?_
    refine jg_lload_n dX3_finish_53 rfl (List.Mem.head _) ?_
    refine jg_mmaxl dX3_finish_54 ma_RX3_136 ma_maxl1 ma_0 ma_maxl2 (by decide) (jcat_le _ (Nat.le_of_ble_eq_true rfl)) (by decide) ?_
    obtain ⟨h16, e17⟩ : ∃ z : jh, z = jsl h6 65 a0 (if ((jl h 192 (jd (jr h 7 (jd (o1))))) + (r5)) < (jl h6 65 a0) then (jl h6 65 a0) else ((jl h 192 (jd (jr h 7 (jd (o1))))) + (r5))) := ⟨_, rfl⟩
    replace hv := hv h16 e17
    refine jp_putl dX3_finish_57 (jfp.nf fl_RX3_15 (fun q hq => by cases hq; rfl)) rfl jsn f15 e17 ?_
    refine jg_goto (tgt := 94) dX3_finish_60 (by decide) ?_
    exact jg_vret dX3_finish_94 rfl hv
def VX3_finish_0 (g : jg) (a0 : Nat) (o1 : Option Nat) (h : jh) (k n : Nat) (Q : jq) : Prop := (¬ (o1) = none) ∧ (jt h (jd (o1)) = 1) ∧ (((jr h 10 (jd (o1))) = none → VX3_finish_28 g (a0) (o1) h k n Q) ∧ (¬ (jr h 10 (jd (o1))) = none → jM g mX0_length [.inr (.inr (some (jd (o1))))] h 0 0 (jkl (fun (r21 : Int64) (h22 : jh) => (jt h22 (jd (o1)) = 1) ∧ (¬ (jr h22 7 (jd (o1))) = none) ∧ (jt h22 (jd (jr h22 7 (jd (o1)))) = 4) ∧ jM g mX3_roundUp [.inr (.inl (r21)), .inl (ji h22 194 (jd (jr h22 7 (jd (o1)))))] h22 0 0 (jkl (fun (r26 : Int64) (h27 : jh) => (jt h27 (jd (jr h 10 (jd (o1)))) = 6) ∧ ∀ h29 : jh, h29 = jsl h27 324 (jd (jr h 10 (jd (o1)))) (r26) → VX3_finish_28 g (a0) (o1) h29 k n Q) (fun e h9 => Q (.inr e) h9))) (fun e h9 => Q (.inr e) h9))))
set_option maxRecDepth 20000 in
theorem vX3_finish_0 {g : jg} {a0 : Nat} {o1 : Option Nat} {h : jh} {k n : Nat} {Q : jq} (hv : VX3_finish_0 g a0 o1 h k n Q) : jG g mX3_finish 0 [(0, .inr (.inr (some (a0)))), (1, .inr (.inr (o1)))] [] h k n Q := by
  unfold VX3_finish_0 at hv
  refine jg_aload_n dX3_finish_0 rfl (List.Mem.tail _ (List.Mem.head _)) ?_
  obtain ⟨f18, hv⟩ := hv
  obtain ⟨f19, hv⟩ := hv
  refine jg_getr dX3_finish_1 fl_RX3_90 rfl f18 f19 ?_
  refine jg_ifnull (tgt := 28) dX3_finish_4 (by decide) (fun c20 => ?_) (fun c20 => ?_)
  · replace hv := hv.1 c20
    exact vX3_finish_28 hv
  · replace hv := hv.2 c20
    refine jg_aload_n dX3_finish_7 rfl (List.Mem.tail _ (List.Mem.head _)) ?_
    refine jg_getr dX3_finish_8 fl_RX3_90 rfl f18 f19 ?_
    refine jg_aload_n dX3_finish_11 rfl (List.Mem.tail _ (List.Mem.head _)) ?_
    refine jp_callV mX0_length [] [.inr (.inr (jr h 10 (jd (o1))))] dX3_finish_12 rfl cl_RX3_124 ⟨⟨by decide, by decide⟩, jcat_le _ (Nat.le_of_ble_eq_true rfl)⟩ f18 f19 (Nat.zero_le _) (Nat.zero_le _) (jM.mono (jkl_k (fun r21 h22 hv => ?_)) hv)
    refine jg_aload_n dX3_finish_15 rfl (List.Mem.tail _ (List.Mem.head _)) ?_
    obtain ⟨f23, hv⟩ := hv
    refine jg_getr dX3_finish_16 fl_RX3_56 rfl f18 f23 ?_
    obtain ⟨f24, hv⟩ := hv
    obtain ⟨f25, hv⟩ := hv
    refine jg_geti dX3_finish_19 fl_RX3_60 rfl f24 f25 ?_
    refine jg_callS mX3_roundUp [.inr (.inl (r21)), .inl (ji h22 194 (jd (jr h22 7 (jd (o1)))))] [.inr (.inr (jr h 10 (jd (o1))))] dX3_finish_22 rfl cl_RX3_93 ⟨⟨by decide, by decide⟩, jcat_le _ (Nat.le_of_ble_eq_true rfl)⟩ (Nat.zero_le _) (Nat.zero_le _) (jM.mono (jkl_k (fun r26 h27 hv => ?_)) hv)
    obtain ⟨f28, hv⟩ := hv
    obtain ⟨h29, e30⟩ : ∃ z : jh, z = jsl h27 324 (jd (jr h 10 (jd (o1)))) (r26) := ⟨_, rfl⟩
    replace hv := hv h29 e30
    refine jp_putl dX3_finish_25 (jfp.nf fl_RX3_128 (fun q hq => by cases hq; rfl)) rfl c20 f28 e30 ?_
    exact vX3_finish_28 hv
theorem eX3_finish {g : jg} {a0 : Nat} {o1 : Option Nat} {h : jh} {mc ms : Nat} {Q : jq} (hv : VX3_finish_0 g a0 o1 h mc ms Q) : jM g mX3_finish [.inr (.inr (some (a0))), .inr (.inr (o1))] h mc ms Q := jM.of (by decide) (Nat.le_of_ble_eq_true rfl) (lv := [(0, .inr (.inr (some (a0)))), (1, .inr (.inr (o1)))]) rfl (vX3_finish_0 hv)
theorem dX3_placeParts_0 : decode cX3_placeParts 0 = .ok (.iconst 1, 1) := by decide +kernel
theorem dX3_placeParts_1 : decode cX3_placeParts 1 = .ok (.istore_n 1, 1) := by decide +kernel
theorem dX3_placeParts_2 : decode cX3_placeParts 2 = .ok (.iload_n 1, 1) := by decide +kernel
theorem dX3_placeParts_3 : decode cX3_placeParts 3 = .ok (.aload_n 0, 1) := by decide +kernel
theorem dX3_placeParts_4 : decode cX3_placeParts 4 = .ok (.getfield 9, 3) := by decide +kernel
theorem dX3_placeParts_7 : decode cX3_placeParts 7 = .ok (.getfield 22, 3) := by decide +kernel
theorem dX3_placeParts_10 : decode cX3_placeParts 10 = .ok (.if_icmp .gt 67, 3) := by decide +kernel
theorem dX3_placeParts_13 : decode cX3_placeParts 13 = .ok (.aload_n 0, 1) := by decide +kernel
theorem dX3_placeParts_14 : decode cX3_placeParts 14 = .ok (.getfield 9, 3) := by decide +kernel
theorem dX3_placeParts_17 : decode cX3_placeParts 17 = .ok (.getfield 28, 3) := by decide +kernel
theorem dX3_placeParts_20 : decode cX3_placeParts 20 = .ok (.iload_n 1, 1) := by decide +kernel
theorem dX3_placeParts_21 : decode cX3_placeParts 21 = .ok (.aaload, 1) := by decide +kernel
theorem dX3_placeParts_22 : decode cX3_placeParts 22 = .ok (.astore_n 2, 1) := by decide +kernel
theorem dX3_placeParts_23 : decode cX3_placeParts 23 = .ok (.aload_n 2, 1) := by decide +kernel
theorem dX3_placeParts_24 : decode cX3_placeParts 24 = .ok (.getfield 139, 3) := by decide +kernel
theorem dX3_placeParts_27 : decode cX3_placeParts 27 = .ok (.ifnull 44, 3) := by decide +kernel
theorem dX3_placeParts_30 : decode cX3_placeParts 30 = .ok (.aload_n 2, 1) := by decide +kernel
theorem dX3_placeParts_31 : decode cX3_placeParts 31 = .ok (.getfield 142, 3) := by decide +kernel
theorem dX3_placeParts_34 : decode cX3_placeParts 34 = .ok (.ifnull 37, 3) := by decide +kernel
theorem dX3_placeParts_37 : decode cX3_placeParts 37 = .ok (.aload_n 2, 1) := by decide +kernel
theorem dX3_placeParts_38 : decode cX3_placeParts 38 = .ok (.getfield 56, 3) := by decide +kernel
theorem dX3_placeParts_41 : decode cX3_placeParts 41 = .ok (.aload_n 2, 1) := by decide +kernel
theorem dX3_placeParts_42 : decode cX3_placeParts 42 = .ok (.getfield 139, 3) := by decide +kernel
theorem dX3_placeParts_45 : decode cX3_placeParts 45 = .ok (.getfield 56, 3) := by decide +kernel
theorem dX3_placeParts_48 : decode cX3_placeParts 48 = .ok (.getfield 97, 3) := by decide +kernel
theorem dX3_placeParts_51 : decode cX3_placeParts 51 = .ok (.putfield 97, 3) := by decide +kernel
theorem dX3_placeParts_54 : decode cX3_placeParts 54 = .ok (.aload_n 2, 1) := by decide +kernel
theorem dX3_placeParts_55 : decode cX3_placeParts 55 = .ok (.getfield 56, 3) := by decide +kernel
theorem dX3_placeParts_58 : decode cX3_placeParts 58 = .ok (.aload_n 2, 1) := by decide +kernel
theorem dX3_placeParts_59 : decode cX3_placeParts 59 = .ok (.getfield 142, 3) := by decide +kernel
theorem dX3_placeParts_62 : decode cX3_placeParts 62 = .ok (.getfield 56, 3) := by decide +kernel
theorem dX3_placeParts_65 : decode cX3_placeParts 65 = .ok (.getfield 103, 3) := by decide +kernel
theorem dX3_placeParts_68 : decode cX3_placeParts 68 = .ok (.putfield 103, 3) := by decide +kernel
theorem dX3_placeParts_71 : decode cX3_placeParts 71 = .ok (.iinc 1 1, 3) := by decide +kernel
theorem dX3_placeParts_74 : decode cX3_placeParts 74 = .ok (.goto (-72), 3) := by decide +kernel
theorem dX3_placeParts_77 : decode cX3_placeParts 77 = .ok (.return_, 1) := by decide +kernel
def VX3_placeParts_2 (g : jg) (a0 : Nat) (x1 : Int32) (h : jh) (k n : Nat) (Q : jq) : Prop := (jt h a0 = 2) ∧ (¬ (jr h 64 a0) = none) ∧ (jt h (jd (jr h 64 a0)) = 7) ∧ (((ji h 385 (jd (jr h 64 a0))) < (x1) → Q (.inl none) h) ∧ (¬ (ji h 385 (jd (jr h 64 a0))) < (x1) → (¬ (jr h 384 (jd (jr h 64 a0))) = none) ∧ (jt h (jd (jr h 384 (jd (jr h 64 a0)))) = 23) ∧ (vp_in (x1) (jn h (jd (jr h 384 (jd (jr h 64 a0)))))) ∧ (¬ (jR h (jd (jr h 384 (jd (jr h 64 a0)))) (x1 : Int32).toNatClampNeg) = none) ∧ (jt h (jd (jR h (jd (jr h 384 (jd (jr h 64 a0)))) (x1 : Int32).toNatClampNeg)) = 1) ∧ (((jr h 15 (jd (jR h (jd (jr h 384 (jd (jr h 64 a0)))) (x1 : Int32).toNatClampNeg))) = none → jG g mX3_placeParts 2 [(0, .inr (.inr (some (a0)))), (1, .inl ((x1) + 1))] [] h k n Q) ∧ (¬ (jr h 15 (jd (jR h (jd (jr h 384 (jd (jr h 64 a0)))) (x1 : Int32).toNatClampNeg))) = none → (((jr h 16 (jd (jR h (jd (jr h 384 (jd (jr h 64 a0)))) (x1 : Int32).toNatClampNeg))) = none → jG g mX3_placeParts 2 [(0, .inr (.inr (some (a0)))), (1, .inl ((x1) + 1))] [] h k n Q) ∧ (¬ (jr h 16 (jd (jR h (jd (jr h 384 (jd (jr h 64 a0)))) (x1 : Int32).toNatClampNeg))) = none → (jt h (jd (jr h 15 (jd (jR h (jd (jr h 384 (jd (jr h 64 a0)))) (x1 : Int32).toNatClampNeg)))) = 1) ∧ (¬ (jr h 7 (jd (jr h 15 (jd (jR h (jd (jr h 384 (jd (jr h 64 a0)))) (x1 : Int32).toNatClampNeg))))) = none) ∧ (jt h (jd (jr h 7 (jd (jr h 15 (jd (jR h (jd (jr h 384 (jd (jr h 64 a0)))) (x1 : Int32).toNatClampNeg)))))) = 4) ∧ (¬ (jr h 7 (jd (jR h (jd (jr h 384 (jd (jr h 64 a0)))) (x1 : Int32).toNatClampNeg))) = none) ∧ (jt h (jd (jr h 7 (jd (jR h (jd (jr h 384 (jd (jr h 64 a0)))) (x1 : Int32).toNatClampNeg)))) = 4) ∧ ∀ h17 : jh, h17 = jsl h 192 (jd (jr h 7 (jd (jR h (jd (jr h 384 (jd (jr h 64 a0)))) (x1 : Int32).toNatClampNeg)))) (jl h 192 (jd (jr h 7 (jd (jr h 15 (jd (jR h (jd (jr h 384 (jd (jr h 64 a0)))) (x1 : Int32).toNatClampNeg))))))) → (¬ (jr h17 16 (jd (jR h (jd (jr h 384 (jd (jr h 64 a0)))) (x1 : Int32).toNatClampNeg))) = none) ∧ (jt h17 (jd (jr h17 16 (jd (jR h (jd (jr h 384 (jd (jr h 64 a0)))) (x1 : Int32).toNatClampNeg)))) = 1) ∧ (¬ (jr h17 7 (jd (jr h17 16 (jd (jR h (jd (jr h 384 (jd (jr h 64 a0)))) (x1 : Int32).toNatClampNeg))))) = none) ∧ (jt h17 (jd (jr h17 7 (jd (jr h17 16 (jd (jR h (jd (jr h 384 (jd (jr h 64 a0)))) (x1 : Int32).toNatClampNeg)))))) = 4) ∧ (¬ (jr h17 7 (jd (jR h (jd (jr h 384 (jd (jr h 64 a0)))) (x1 : Int32).toNatClampNeg))) = none) ∧ (jt h17 (jd (jr h17 7 (jd (jR h (jd (jr h 384 (jd (jr h 64 a0)))) (x1 : Int32).toNatClampNeg)))) = 4) ∧ ∀ h25 : jh, h25 = jsl h17 193 (jd (jr h17 7 (jd (jR h (jd (jr h 384 (jd (jr h 64 a0)))) (x1 : Int32).toNatClampNeg)))) (jl h17 193 (jd (jr h17 7 (jd (jr h17 16 (jd (jR h (jd (jr h 384 (jd (jr h 64 a0)))) (x1 : Int32).toNatClampNeg))))))) → jG g mX3_placeParts 2 [(0, .inr (.inr (some (a0)))), (1, .inl ((x1) + 1))] [] h25 k n Q))))))
set_option maxRecDepth 20000 in
theorem vX3_placeParts_2 {g : jg} {a0 : Nat} {x1 : Int32} {h : jh} {k n : Nat} {Q : jq} (hv : VX3_placeParts_2 g a0 x1 h k n Q) : jG g mX3_placeParts 2 [(0, .inr (.inr (some (a0)))), (1, .inl (x1))] [] h k n Q := by
  unfold VX3_placeParts_2 at hv
  refine jg_iload_n dX3_placeParts_2 rfl (List.Mem.tail _ (List.Mem.head _)) ?_
  refine jg_aload_n dX3_placeParts_3 rfl (List.Mem.head _) ?_
  obtain ⟨f1, hv⟩ := hv
  refine jg_getr dX3_placeParts_4 fl_RX3_9 rfl jsn f1 ?_
  obtain ⟨f2, hv⟩ := hv
  obtain ⟨f3, hv⟩ := hv
  refine jg_geti dX3_placeParts_7 fl_RX3_22 rfl f2 f3 ?_
  refine jg_icmp_gt (tgt := 77) dX3_placeParts_10 (by decide) (fun c4 => ?_) (fun c4 => ?_)
  · replace hv := hv.1 c4
    exact jg_vret dX3_placeParts_77 rfl hv
  · replace hv := hv.2 c4
    refine jg_aload_n dX3_placeParts_13 rfl (List.Mem.head _) ?_
    refine jg_getr dX3_placeParts_14 fl_RX3_9 rfl jsn f1 ?_
    refine jg_getr dX3_placeParts_17 fl_RX3_28 rfl f2 f3 ?_
    refine jg_iload_n dX3_placeParts_20 rfl (List.Mem.tail _ (List.Mem.head _)) ?_
    obtain ⟨f5, hv⟩ := hv
    obtain ⟨f6, hv⟩ := hv
    obtain ⟨f7, hv⟩ := hv
    refine jg_aald dX3_placeParts_21 f5 f6 f7 ?_
    refine jg_astore_n (lv' := [(2, .inr (.inr (jR h (jd (jr h 384 (jd (jr h 64 a0)))) (x1 : Int32).toNatClampNeg))), (0, .inr (.inr (some (a0)))), (1, .inl (x1))]) dX3_placeParts_22 rfl (by decide) rfl ?_
    refine jg_aload_n dX3_placeParts_23 rfl (List.Mem.head _) ?_
    obtain ⟨f8, hv⟩ := hv
    obtain ⟨f9, hv⟩ := hv
    refine jg_getr dX3_placeParts_24 fl_RX3_139 rfl f8 f9 ?_
    refine jg_ifnull (tgt := 71) dX3_placeParts_27 (by decide) (fun c10 => ?_) (fun c10 => ?_)
    · replace hv := hv.1 c10
      refine jg_iinc (v := (x1) + 1) (lv' := [(1, .inl ((x1) + 1)), (2, .inr (.inr (jR h (jd (jr h 384 (jd (jr h 64 a0)))) (x1 : Int32).toNatClampNeg))), (0, .inr (.inr (some (a0))))]) dX3_placeParts_71 (List.Mem.tail _ (List.Mem.tail _ (List.Mem.head _))) rfl (by decide) rfl ?_
      refine jg_goto (tgt := 2) dX3_placeParts_74 (by decide) ?_
      refine jG.sub (lv' := [(0, .inr (.inr (some (a0)))), (1, .inl ((x1) + 1))]) (by simp) ?_
      exact hv
    · replace hv := hv.2 c10
      refine jg_aload_n dX3_placeParts_30 rfl (List.Mem.head _) ?_
      refine jg_getr dX3_placeParts_31 fl_RX3_142 rfl f8 f9 ?_
      refine jg_ifnull (tgt := 71) dX3_placeParts_34 (by decide) (fun c11 => ?_) (fun c11 => ?_)
      · replace hv := hv.1 c11
        refine jg_iinc (v := (x1) + 1) (lv' := [(1, .inl ((x1) + 1)), (2, .inr (.inr (jR h (jd (jr h 384 (jd (jr h 64 a0)))) (x1 : Int32).toNatClampNeg))), (0, .inr (.inr (some (a0))))]) dX3_placeParts_71 (List.Mem.tail _ (List.Mem.tail _ (List.Mem.head _))) rfl (by decide) rfl ?_
        refine jg_goto (tgt := 2) dX3_placeParts_74 (by decide) ?_
        refine jG.sub (lv' := [(0, .inr (.inr (some (a0)))), (1, .inl ((x1) + 1))]) (by simp) ?_
        exact hv
      · replace hv := hv.2 c11
        refine jg_aload_n dX3_placeParts_37 rfl (List.Mem.head _) ?_
        refine jg_getr dX3_placeParts_38 fl_RX3_56 rfl f8 f9 ?_
        refine jg_aload_n dX3_placeParts_41 rfl (List.Mem.head _) ?_
        refine jg_getr dX3_placeParts_42 fl_RX3_139 rfl f8 f9 ?_
        obtain ⟨f12, hv⟩ := hv
        refine jg_getr dX3_placeParts_45 fl_RX3_56 rfl c10 f12 ?_
        obtain ⟨f13, hv⟩ := hv
        obtain ⟨f14, hv⟩ := hv
        refine jg_getl dX3_placeParts_48 fl_RX3_97 rfl f13 f14 ?_
        obtain ⟨f15, hv⟩ := hv
        obtain ⟨f16, hv⟩ := hv
        obtain ⟨h17, e18⟩ : ∃ z : jh, z = jsl h 192 (jd (jr h 7 (jd (jR h (jd (jr h 384 (jd (jr h 64 a0)))) (x1 : Int32).toNatClampNeg)))) (jl h 192 (jd (jr h 7 (jd (jr h 15 (jd (jR h (jd (jr h 384 (jd (jr h 64 a0)))) (x1 : Int32).toNatClampNeg))))))) := ⟨_, rfl⟩
        replace hv := hv h17 e18
        refine jp_putl dX3_placeParts_51 (jfp.nf fl_RX3_97 (fun q hq => by cases hq; rfl)) rfl f15 f16 e18 ?_
        refine jg_aload_n dX3_placeParts_54 rfl (List.Mem.head _) ?_
        refine jg_getr dX3_placeParts_55 fl_RX3_56 rfl f8 ((congrArg (fun z => jt z (jd (jR h (jd (jr h 384 (jd (jr h 64 a0)))) (x1 : Int32).toNatClampNeg))) e18).trans f9) ?_
        refine jg_aload_n dX3_placeParts_58 rfl (List.Mem.head _) ?_
        refine jg_getr dX3_placeParts_59 fl_RX3_142 rfl f8 ((congrArg (fun z => jt z (jd (jR h (jd (jr h 384 (jd (jr h 64 a0)))) (x1 : Int32).toNatClampNeg))) e18).trans f9) ?_
        obtain ⟨f19, hv⟩ := hv
        obtain ⟨f20, hv⟩ := hv
        refine jg_getr dX3_placeParts_62 fl_RX3_56 rfl f19 f20 ?_
        obtain ⟨f21, hv⟩ := hv
        obtain ⟨f22, hv⟩ := hv
        refine jg_getl dX3_placeParts_65 fl_RX3_103 rfl f21 f22 ?_
        obtain ⟨f23, hv⟩ := hv
        obtain ⟨f24, hv⟩ := hv
        obtain ⟨h25, e26⟩ : ∃ z : jh, z = jsl h17 193 (jd (jr h17 7 (jd (jR h (jd (jr h 384 (jd (jr h 64 a0)))) (x1 : Int32).toNatClampNeg)))) (jl h17 193 (jd (jr h17 7 (jd (jr h17 16 (jd (jR h (jd (jr h 384 (jd (jr h 64 a0)))) (x1 : Int32).toNatClampNeg))))))) := ⟨_, rfl⟩
        replace hv := hv h25 e26
        refine jp_putl dX3_placeParts_68 (jfp.nf fl_RX3_103 (fun q hq => by cases hq; rfl)) rfl f23 f24 e26 ?_
        refine jg_iinc (v := (x1) + 1) (lv' := [(1, .inl ((x1) + 1)), (2, .inr (.inr (jR h (jd (jr h 384 (jd (jr h 64 a0)))) (x1 : Int32).toNatClampNeg))), (0, .inr (.inr (some (a0))))]) dX3_placeParts_71 (List.Mem.tail _ (List.Mem.tail _ (List.Mem.head _))) rfl (by decide) rfl ?_
        refine jg_goto (tgt := 2) dX3_placeParts_74 (by decide) ?_
        refine jG.sub (lv' := [(0, .inr (.inr (some (a0)))), (1, .inl ((x1) + 1))]) (by simp) ?_
        exact hv
def VX3_placeParts_0 (g : jg) (a0 : Nat) (h : jh) (k n : Nat) (Q : jq) : Prop := jG g mX3_placeParts 2 [(0, .inr (.inr (some (a0)))), (1, .inl (1))] [] h k n Q
set_option maxRecDepth 20000 in
theorem vX3_placeParts_0 {g : jg} {a0 : Nat} {h : jh} {k n : Nat} {Q : jq} (hv : VX3_placeParts_0 g a0 h k n Q) : jG g mX3_placeParts 0 [(0, .inr (.inr (some (a0))))] [] h k n Q := by
  unfold VX3_placeParts_0 at hv
  refine jg_iconst (v := 1) dX3_placeParts_0 (by decide) ?_
  refine jg_istore_n (lv' := [(1, .inl (1)), (0, .inr (.inr (some (a0))))]) dX3_placeParts_1 rfl (by decide) rfl ?_
  refine jG.sub (lv' := [(0, .inr (.inr (some (a0)))), (1, .inl (1))]) (by simp) ?_
  exact hv
theorem eX3_placeParts {g : jg} {a0 : Nat} {h : jh} {mc ms : Nat} {Q : jq} (hv : VX3_placeParts_0 g a0 h mc ms Q) : jM g mX3_placeParts [.inr (.inr (some (a0)))] h mc ms Q := jM.of (by decide) (Nat.le_of_ble_eq_true rfl) (lv := [(0, .inr (.inr (some (a0))))]) rfl (vX3_placeParts_0 hv)
theorem dX3_markMoving_0 : decode cX3_markMoving 0 = .ok (.iconst 1, 1) := by decide +kernel
theorem dX3_markMoving_1 : decode cX3_markMoving 1 = .ok (.istore_n 1, 1) := by decide +kernel
theorem dX3_markMoving_2 : decode cX3_markMoving 2 = .ok (.iload_n 1, 1) := by decide +kernel
theorem dX3_markMoving_3 : decode cX3_markMoving 3 = .ok (.aload_n 0, 1) := by decide +kernel
theorem dX3_markMoving_4 : decode cX3_markMoving 4 = .ok (.getfield 9, 3) := by decide +kernel
theorem dX3_markMoving_7 : decode cX3_markMoving 7 = .ok (.getfield 22, 3) := by decide +kernel
theorem dX3_markMoving_10 : decode cX3_markMoving 10 = .ok (.if_icmp .gt 74, 3) := by decide +kernel
theorem dX3_markMoving_13 : decode cX3_markMoving 13 = .ok (.aload_n 0, 1) := by decide +kernel
theorem dX3_markMoving_14 : decode cX3_markMoving 14 = .ok (.getfield 9, 3) := by decide +kernel
theorem dX3_markMoving_17 : decode cX3_markMoving 17 = .ok (.getfield 28, 3) := by decide +kernel
theorem dX3_markMoving_20 : decode cX3_markMoving 20 = .ok (.iload_n 1, 1) := by decide +kernel
theorem dX3_markMoving_21 : decode cX3_markMoving 21 = .ok (.aaload, 1) := by decide +kernel
theorem dX3_markMoving_22 : decode cX3_markMoving 22 = .ok (.astore_n 2, 1) := by decide +kernel
theorem dX3_markMoving_23 : decode cX3_markMoving 23 = .ok (.aload_n 2, 1) := by decide +kernel
theorem dX3_markMoving_24 : decode cX3_markMoving 24 = .ok (.getfield 90, 3) := by decide +kernel
theorem dX3_markMoving_27 : decode cX3_markMoving 27 = .ok (.ifnull 51, 3) := by decide +kernel
theorem dX3_markMoving_30 : decode cX3_markMoving 30 = .ok (.aload_n 2, 1) := by decide +kernel
theorem dX3_markMoving_31 : decode cX3_markMoving 31 = .ok (.getfield 90, 3) := by decide +kernel
theorem dX3_markMoving_34 : decode cX3_markMoving 34 = .ok (.getfield 145, 3) := by decide +kernel
theorem dX3_markMoving_37 : decode cX3_markMoving 37 = .ok (.ifCond .eq 41, 3) := by decide +kernel
theorem dX3_markMoving_40 : decode cX3_markMoving 40 = .ok (.aload_n 2, 1) := by decide +kernel
theorem dX3_markMoving_41 : decode cX3_markMoving 41 = .ok (.astore_n 3, 1) := by decide +kernel
theorem dX3_markMoving_42 : decode cX3_markMoving 42 = .ok (.aload_n 3, 1) := by decide +kernel
theorem dX3_markMoving_43 : decode cX3_markMoving 43 = .ok (.getfield 104, 3) := by decide +kernel
theorem dX3_markMoving_46 : decode cX3_markMoving 46 = .ok (.ifnonnull 32, 3) := by decide +kernel
theorem dX3_markMoving_49 : decode cX3_markMoving 49 = .ok (.aload_n 3, 1) := by decide +kernel
theorem dX3_markMoving_50 : decode cX3_markMoving 50 = .ok (.getfield 38, 3) := by decide +kernel
theorem dX3_markMoving_53 : decode cX3_markMoving 53 = .ok (.ifnull 25, 3) := by decide +kernel
theorem dX3_markMoving_56 : decode cX3_markMoving 56 = .ok (.aload_n 3, 1) := by decide +kernel
theorem dX3_markMoving_57 : decode cX3_markMoving 57 = .ok (.getfield 38, 3) := by decide +kernel
theorem dX3_markMoving_60 : decode cX3_markMoving 60 = .ok (.getfield 56, 3) := by decide +kernel
theorem dX3_markMoving_63 : decode cX3_markMoving 63 = .ok (.aload_n 2, 1) := by decide +kernel
theorem dX3_markMoving_64 : decode cX3_markMoving 64 = .ok (.getfield 90, 3) := by decide +kernel
theorem dX3_markMoving_67 : decode cX3_markMoving 67 = .ok (.putfield 65, 3) := by decide +kernel
theorem dX3_markMoving_70 : decode cX3_markMoving 70 = .ok (.aload_n 3, 1) := by decide +kernel
theorem dX3_markMoving_71 : decode cX3_markMoving 71 = .ok (.getfield 38, 3) := by decide +kernel
theorem dX3_markMoving_74 : decode cX3_markMoving 74 = .ok (.astore_n 3, 1) := by decide +kernel
theorem dX3_markMoving_75 : decode cX3_markMoving 75 = .ok (.goto (-33), 3) := by decide +kernel
theorem dX3_markMoving_78 : decode cX3_markMoving 78 = .ok (.iinc 1 1, 3) := by decide +kernel
theorem dX3_markMoving_81 : decode cX3_markMoving 81 = .ok (.goto (-79), 3) := by decide +kernel
theorem dX3_markMoving_84 : decode cX3_markMoving 84 = .ok (.return_, 1) := by decide +kernel
def VX3_markMoving_42 (g : jg) (a0 : Nat) (x1 : Int32) (o2 : Option Nat) (o3 : Option Nat) (h : jh) (k n : Nat) (Q : jq) : Prop := (¬ (o3) = none) ∧ (jt h (jd (o3)) = 1) ∧ ((¬ (jr h 17 (jd (o3))) = none → jG g mX3_markMoving 2 [(0, .inr (.inr (some (a0)))), (1, .inl ((x1) + 1))] [] h k n Q) ∧ ((jr h 17 (jd (o3))) = none → (((jr h 5 (jd (o3))) = none → jG g mX3_markMoving 2 [(0, .inr (.inr (some (a0)))), (1, .inl ((x1) + 1))] [] h k n Q) ∧ (¬ (jr h 5 (jd (o3))) = none → (jt h (jd (jr h 5 (jd (o3)))) = 1) ∧ (¬ (o2) = none) ∧ (jt h (jd (o2)) = 1) ∧ (¬ (jr h 7 (jd (jr h 5 (jd (o3))))) = none) ∧ (jt h (jd (jr h 7 (jd (jr h 5 (jd (o3)))))) = 4) ∧ ∀ h10 : jh, h10 = jsr h 197 (jd (jr h 7 (jd (jr h 5 (jd (o3)))))) (jr h 10 (jd (o2))) → jG g mX3_markMoving 42 [(0, .inr (.inr (some (a0)))), (1, .inl (x1)), (2, .inr (.inr (o2))), (3, .inr (.inr (jr h10 5 (jd (o3)))))] [] h10 k n Q))))
set_option maxRecDepth 20000 in
theorem vX3_markMoving_42 {g : jg} {a0 : Nat} {x1 : Int32} {o2 : Option Nat} {o3 : Option Nat} {h : jh} {k n : Nat} {Q : jq} (hv : VX3_markMoving_42 g a0 x1 o2 o3 h k n Q) : jG g mX3_markMoving 42 [(0, .inr (.inr (some (a0)))), (1, .inl (x1)), (2, .inr (.inr (o2))), (3, .inr (.inr (o3)))] [] h k n Q := by
  unfold VX3_markMoving_42 at hv
  refine jg_aload_n dX3_markMoving_42 rfl (List.Mem.tail _ (List.Mem.tail _ (List.Mem.tail _ (List.Mem.head _)))) ?_
  obtain ⟨f1, hv⟩ := hv
  obtain ⟨f2, hv⟩ := hv
  refine jg_getr dX3_markMoving_43 fl_RX3_104 rfl f1 f2 ?_
  refine jg_ifnonnull (tgt := 78) dX3_markMoving_46 (by decide) (fun c3 => ?_) (fun c3 => ?_)
  · replace hv := hv.1 c3
    refine jg_iinc (v := (x1) + 1) (lv' := [(1, .inl ((x1) + 1)), (0, .inr (.inr (some (a0)))), (2, .inr (.inr (o2))), (3, .inr (.inr (o3)))]) dX3_markMoving_78 (List.Mem.tail _ (List.Mem.head _)) rfl (by decide) rfl ?_
    refine jg_goto (tgt := 2) dX3_markMoving_81 (by decide) ?_
    refine jG.sub (lv' := [(0, .inr (.inr (some (a0)))), (1, .inl ((x1) + 1))]) (by simp) ?_
    exact hv
  · replace hv := hv.2 c3
    refine jg_aload_n dX3_markMoving_49 rfl (List.Mem.tail _ (List.Mem.tail _ (List.Mem.tail _ (List.Mem.head _)))) ?_
    refine jg_getr dX3_markMoving_50 fl_RX3_38 rfl f1 f2 ?_
    refine jg_ifnull (tgt := 78) dX3_markMoving_53 (by decide) (fun c4 => ?_) (fun c4 => ?_)
    · replace hv := hv.1 c4
      refine jg_iinc (v := (x1) + 1) (lv' := [(1, .inl ((x1) + 1)), (0, .inr (.inr (some (a0)))), (2, .inr (.inr (o2))), (3, .inr (.inr (o3)))]) dX3_markMoving_78 (List.Mem.tail _ (List.Mem.head _)) rfl (by decide) rfl ?_
      refine jg_goto (tgt := 2) dX3_markMoving_81 (by decide) ?_
      refine jG.sub (lv' := [(0, .inr (.inr (some (a0)))), (1, .inl ((x1) + 1))]) (by simp) ?_
      exact hv
    · replace hv := hv.2 c4
      refine jg_aload_n dX3_markMoving_56 rfl (List.Mem.tail _ (List.Mem.tail _ (List.Mem.tail _ (List.Mem.head _)))) ?_
      refine jg_getr dX3_markMoving_57 fl_RX3_38 rfl f1 f2 ?_
      obtain ⟨f5, hv⟩ := hv
      refine jg_getr dX3_markMoving_60 fl_RX3_56 rfl c4 f5 ?_
      refine jg_aload_n dX3_markMoving_63 rfl (List.Mem.tail _ (List.Mem.tail _ (List.Mem.head _))) ?_
      obtain ⟨f6, hv⟩ := hv
      obtain ⟨f7, hv⟩ := hv
      refine jg_getr dX3_markMoving_64 fl_RX3_90 rfl f6 f7 ?_
      obtain ⟨f8, hv⟩ := hv
      obtain ⟨f9, hv⟩ := hv
      obtain ⟨h10, e11⟩ : ∃ z : jh, z = jsr h 197 (jd (jr h 7 (jd (jr h 5 (jd (o3)))))) (jr h 10 (jd (o2))) := ⟨_, rfl⟩
      replace hv := hv h10 e11
      refine jp_putr dX3_markMoving_67 (jfp.nf fl_RX3_65 (fun q hq => by cases hq; rfl)) rfl f8 f9 e11 ?_
      refine jg_aload_n dX3_markMoving_70 rfl (List.Mem.tail _ (List.Mem.tail _ (List.Mem.tail _ (List.Mem.head _)))) ?_
      refine jg_getr dX3_markMoving_71 fl_RX3_38 rfl f1 ((congrArg (fun z => jt z (jd (o3))) e11).trans f2) ?_
      refine jg_astore_n (lv' := [(3, .inr (.inr (jr h10 5 (jd (o3))))), (0, .inr (.inr (some (a0)))), (1, .inl (x1)), (2, .inr (.inr (o2)))]) dX3_markMoving_74 rfl (by decide) rfl ?_
      refine jg_goto (tgt := 42) dX3_markMoving_75 (by decide) ?_
      refine jG.sub (lv' := [(0, .inr (.inr (some (a0)))), (1, .inl (x1)), (2, .inr (.inr (o2))), (3, .inr (.inr (jr h10 5 (jd (o3)))))]) (by simp) ?_
      exact hv
def VX3_markMoving_2 (g : jg) (a0 : Nat) (x1 : Int32) (h : jh) (k n : Nat) (Q : jq) : Prop := (jt h a0 = 2) ∧ (¬ (jr h 64 a0) = none) ∧ (jt h (jd (jr h 64 a0)) = 7) ∧ (((ji h 385 (jd (jr h 64 a0))) < (x1) → Q (.inl none) h) ∧ (¬ (ji h 385 (jd (jr h 64 a0))) < (x1) → (¬ (jr h 384 (jd (jr h 64 a0))) = none) ∧ (jt h (jd (jr h 384 (jd (jr h 64 a0)))) = 23) ∧ (vp_in (x1) (jn h (jd (jr h 384 (jd (jr h 64 a0)))))) ∧ (¬ (jR h (jd (jr h 384 (jd (jr h 64 a0)))) (x1 : Int32).toNatClampNeg) = none) ∧ (jt h (jd (jR h (jd (jr h 384 (jd (jr h 64 a0)))) (x1 : Int32).toNatClampNeg)) = 1) ∧ (((jr h 10 (jd (jR h (jd (jr h 384 (jd (jr h 64 a0)))) (x1 : Int32).toNatClampNeg))) = none → jG g mX3_markMoving 2 [(0, .inr (.inr (some (a0)))), (1, .inl ((x1) + 1))] [] h k n Q) ∧ (¬ (jr h 10 (jd (jR h (jd (jr h 384 (jd (jr h 64 a0)))) (x1 : Int32).toNatClampNeg))) = none → (jt h (jd (jr h 10 (jd (jR h (jd (jr h 384 (jd (jr h 64 a0)))) (x1 : Int32).toNatClampNeg)))) = 6) ∧ (((ji h 322 (jd (jr h 10 (jd (jR h (jd (jr h 384 (jd (jr h 64 a0)))) (x1 : Int32).toNatClampNeg))))) = 0 → jG g mX3_markMoving 2 [(0, .inr (.inr (some (a0)))), (1, .inl ((x1) + 1))] [] h k n Q) ∧ (¬ (ji h 322 (jd (jr h 10 (jd (jR h (jd (jr h 384 (jd (jr h 64 a0)))) (x1 : Int32).toNatClampNeg))))) = 0 → jG g mX3_markMoving 42 [(0, .inr (.inr (some (a0)))), (1, .inl (x1)), (2, .inr (.inr (jR h (jd (jr h 384 (jd (jr h 64 a0)))) (x1 : Int32).toNatClampNeg))), (3, .inr (.inr (jR h (jd (jr h 384 (jd (jr h 64 a0)))) (x1 : Int32).toNatClampNeg)))] [] h k n Q))))))
set_option maxRecDepth 20000 in
theorem vX3_markMoving_2 {g : jg} {a0 : Nat} {x1 : Int32} {h : jh} {k n : Nat} {Q : jq} (hv : VX3_markMoving_2 g a0 x1 h k n Q) : jG g mX3_markMoving 2 [(0, .inr (.inr (some (a0)))), (1, .inl (x1))] [] h k n Q := by
  unfold VX3_markMoving_2 at hv
  refine jg_iload_n dX3_markMoving_2 rfl (List.Mem.tail _ (List.Mem.head _)) ?_
  refine jg_aload_n dX3_markMoving_3 rfl (List.Mem.head _) ?_
  obtain ⟨f12, hv⟩ := hv
  refine jg_getr dX3_markMoving_4 fl_RX3_9 rfl jsn f12 ?_
  obtain ⟨f13, hv⟩ := hv
  obtain ⟨f14, hv⟩ := hv
  refine jg_geti dX3_markMoving_7 fl_RX3_22 rfl f13 f14 ?_
  refine jg_icmp_gt (tgt := 84) dX3_markMoving_10 (by decide) (fun c15 => ?_) (fun c15 => ?_)
  · replace hv := hv.1 c15
    exact jg_vret dX3_markMoving_84 rfl hv
  · replace hv := hv.2 c15
    refine jg_aload_n dX3_markMoving_13 rfl (List.Mem.head _) ?_
    refine jg_getr dX3_markMoving_14 fl_RX3_9 rfl jsn f12 ?_
    refine jg_getr dX3_markMoving_17 fl_RX3_28 rfl f13 f14 ?_
    refine jg_iload_n dX3_markMoving_20 rfl (List.Mem.tail _ (List.Mem.head _)) ?_
    obtain ⟨f16, hv⟩ := hv
    obtain ⟨f17, hv⟩ := hv
    obtain ⟨f18, hv⟩ := hv
    refine jg_aald dX3_markMoving_21 f16 f17 f18 ?_
    refine jg_astore_n (lv' := [(2, .inr (.inr (jR h (jd (jr h 384 (jd (jr h 64 a0)))) (x1 : Int32).toNatClampNeg))), (0, .inr (.inr (some (a0)))), (1, .inl (x1))]) dX3_markMoving_22 rfl (by decide) rfl ?_
    refine jg_aload_n dX3_markMoving_23 rfl (List.Mem.head _) ?_
    obtain ⟨f19, hv⟩ := hv
    obtain ⟨f20, hv⟩ := hv
    refine jg_getr dX3_markMoving_24 fl_RX3_90 rfl f19 f20 ?_
    refine jg_ifnull (tgt := 78) dX3_markMoving_27 (by decide) (fun c21 => ?_) (fun c21 => ?_)
    · replace hv := hv.1 c21
      refine jg_iinc (v := (x1) + 1) (lv' := [(1, .inl ((x1) + 1)), (2, .inr (.inr (jR h (jd (jr h 384 (jd (jr h 64 a0)))) (x1 : Int32).toNatClampNeg))), (0, .inr (.inr (some (a0))))]) dX3_markMoving_78 (List.Mem.tail _ (List.Mem.tail _ (List.Mem.head _))) rfl (by decide) rfl ?_
      refine jg_goto (tgt := 2) dX3_markMoving_81 (by decide) ?_
      refine jG.sub (lv' := [(0, .inr (.inr (some (a0)))), (1, .inl ((x1) + 1))]) (by simp) ?_
      exact hv
    · replace hv := hv.2 c21
      refine jg_aload_n dX3_markMoving_30 rfl (List.Mem.head _) ?_
      refine jg_getr dX3_markMoving_31 fl_RX3_90 rfl f19 f20 ?_
      obtain ⟨f22, hv⟩ := hv
      refine jg_geti dX3_markMoving_34 fl_RX3_145 rfl c21 f22 ?_
      refine jg_if_eq (tgt := 78) dX3_markMoving_37 (by decide) (fun c23 => ?_) (fun c23 => ?_)
      · replace hv := hv.1 c23
        refine jg_iinc (v := (x1) + 1) (lv' := [(1, .inl ((x1) + 1)), (2, .inr (.inr (jR h (jd (jr h 384 (jd (jr h 64 a0)))) (x1 : Int32).toNatClampNeg))), (0, .inr (.inr (some (a0))))]) dX3_markMoving_78 (List.Mem.tail _ (List.Mem.tail _ (List.Mem.head _))) rfl (by decide) rfl ?_
        refine jg_goto (tgt := 2) dX3_markMoving_81 (by decide) ?_
        refine jG.sub (lv' := [(0, .inr (.inr (some (a0)))), (1, .inl ((x1) + 1))]) (by simp) ?_
        exact hv
      · replace hv := hv.2 c23
        refine jg_aload_n dX3_markMoving_40 rfl (List.Mem.head _) ?_
        refine jg_astore_n (lv' := [(3, .inr (.inr (jR h (jd (jr h 384 (jd (jr h 64 a0)))) (x1 : Int32).toNatClampNeg))), (2, .inr (.inr (jR h (jd (jr h 384 (jd (jr h 64 a0)))) (x1 : Int32).toNatClampNeg))), (0, .inr (.inr (some (a0)))), (1, .inl (x1))]) dX3_markMoving_41 rfl (by decide) rfl ?_
        refine jG.sub (lv' := [(0, .inr (.inr (some (a0)))), (1, .inl (x1)), (2, .inr (.inr (jR h (jd (jr h 384 (jd (jr h 64 a0)))) (x1 : Int32).toNatClampNeg))), (3, .inr (.inr (jR h (jd (jr h 384 (jd (jr h 64 a0)))) (x1 : Int32).toNatClampNeg)))]) (by simp) ?_
        exact hv
def VX3_markMoving_0 (g : jg) (a0 : Nat) (h : jh) (k n : Nat) (Q : jq) : Prop := jG g mX3_markMoving 2 [(0, .inr (.inr (some (a0)))), (1, .inl (1))] [] h k n Q
set_option maxRecDepth 20000 in
theorem vX3_markMoving_0 {g : jg} {a0 : Nat} {h : jh} {k n : Nat} {Q : jq} (hv : VX3_markMoving_0 g a0 h k n Q) : jG g mX3_markMoving 0 [(0, .inr (.inr (some (a0))))] [] h k n Q := by
  unfold VX3_markMoving_0 at hv
  refine jg_iconst (v := 1) dX3_markMoving_0 (by decide) ?_
  refine jg_istore_n (lv' := [(1, .inl (1)), (0, .inr (.inr (some (a0))))]) dX3_markMoving_1 rfl (by decide) rfl ?_
  refine jG.sub (lv' := [(0, .inr (.inr (some (a0)))), (1, .inl (1))]) (by simp) ?_
  exact hv
theorem eX3_markMoving {g : jg} {a0 : Nat} {h : jh} {mc ms : Nat} {Q : jq} (hv : VX3_markMoving_0 g a0 h mc ms Q) : jM g mX3_markMoving [.inr (.inr (some (a0)))] h mc ms Q := jM.of (by decide) (Nat.le_of_ble_eq_true rfl) (lv := [(0, .inr (.inr (some (a0))))]) rfl (vX3_markMoving_0 hv)
theorem dX3_firstWrong_0 : decode cX3_firstWrong 0 = .ok (.iconst 1, 1) := by decide +kernel
theorem dX3_firstWrong_1 : decode cX3_firstWrong 1 = .ok (.istore_n 1, 1) := by decide +kernel
theorem dX3_firstWrong_2 : decode cX3_firstWrong 2 = .ok (.iload_n 1, 1) := by decide +kernel
theorem dX3_firstWrong_3 : decode cX3_firstWrong 3 = .ok (.aload_n 0, 1) := by decide +kernel
theorem dX3_firstWrong_4 : decode cX3_firstWrong 4 = .ok (.getfield 9, 3) := by decide +kernel
theorem dX3_firstWrong_7 : decode cX3_firstWrong 7 = .ok (.getfield 22, 3) := by decide +kernel
theorem dX3_firstWrong_10 : decode cX3_firstWrong 10 = .ok (.if_icmp .gt 27, 3) := by decide +kernel
theorem dX3_firstWrong_13 : decode cX3_firstWrong 13 = .ok (.aload_n 0, 1) := by decide +kernel
theorem dX3_firstWrong_14 : decode cX3_firstWrong 14 = .ok (.aload_n 0, 1) := by decide +kernel
theorem dX3_firstWrong_15 : decode cX3_firstWrong 15 = .ok (.getfield 9, 3) := by decide +kernel
theorem dX3_firstWrong_18 : decode cX3_firstWrong 18 = .ok (.getfield 28, 3) := by decide +kernel
theorem dX3_firstWrong_21 : decode cX3_firstWrong 21 = .ok (.iload_n 1, 1) := by decide +kernel
theorem dX3_firstWrong_22 : decode cX3_firstWrong 22 = .ok (.aaload, 1) := by decide +kernel
theorem dX3_firstWrong_23 : decode cX3_firstWrong 23 = .ok (.invokevirtual 148, 3) := by decide +kernel
theorem dX3_firstWrong_26 : decode cX3_firstWrong 26 = .ok (.ifCond .ne 5, 3) := by decide +kernel
theorem dX3_firstWrong_29 : decode cX3_firstWrong 29 = .ok (.iload_n 1, 1) := by decide +kernel
theorem dX3_firstWrong_30 : decode cX3_firstWrong 30 = .ok (.ireturn, 1) := by decide +kernel
theorem dX3_firstWrong_31 : decode cX3_firstWrong 31 = .ok (.iinc 1 1, 3) := by decide +kernel
theorem dX3_firstWrong_34 : decode cX3_firstWrong 34 = .ok (.goto (-32), 3) := by decide +kernel
theorem dX3_firstWrong_37 : decode cX3_firstWrong 37 = .ok (.iconst (-1), 1) := by decide +kernel
theorem dX3_firstWrong_38 : decode cX3_firstWrong 38 = .ok (.ireturn, 1) := by decide +kernel
def VX3_firstWrong_2 (g : jg) (a0 : Nat) (x1 : Int32) (h : jh) (k n : Nat) (Q : jq) : Prop := (jt h a0 = 2) ∧ (¬ (jr h 64 a0) = none) ∧ (jt h (jd (jr h 64 a0)) = 7) ∧ (((ji h 385 (jd (jr h 64 a0))) < (x1) → Q (.inl (some (.inl ((-1))))) h) ∧ (¬ (ji h 385 (jd (jr h 64 a0))) < (x1) → (¬ (jr h 384 (jd (jr h 64 a0))) = none) ∧ (jt h (jd (jr h 384 (jd (jr h 64 a0)))) = 23) ∧ (vp_in (x1) (jn h (jd (jr h 384 (jd (jr h 64 a0)))))) ∧ jM g mX3_isRight [.inr (.inr (some a0)), .inr (.inr (jR h (jd (jr h 384 (jd (jr h 64 a0)))) (x1 : Int32).toNatClampNeg))] h 0 0 (jki (fun (r8 : Int32) (h9 : jh) => ((¬ (r8) = 0 → jG g mX3_firstWrong 2 [(0, .inr (.inr (some (a0)))), (1, .inl ((x1) + 1))] [] h9 k n Q) ∧ ((r8) = 0 → Q (.inl (some (.inl (x1)))) h9))) (fun e h9 => Q (.inr e) h9))))
set_option maxRecDepth 20000 in
theorem vX3_firstWrong_2 {g : jg} {a0 : Nat} {x1 : Int32} {h : jh} {k n : Nat} {Q : jq} (hv : VX3_firstWrong_2 g a0 x1 h k n Q) : jG g mX3_firstWrong 2 [(0, .inr (.inr (some (a0)))), (1, .inl (x1))] [] h k n Q := by
  unfold VX3_firstWrong_2 at hv
  refine jg_iload_n dX3_firstWrong_2 rfl (List.Mem.tail _ (List.Mem.head _)) ?_
  refine jg_aload_n dX3_firstWrong_3 rfl (List.Mem.head _) ?_
  obtain ⟨f1, hv⟩ := hv
  refine jg_getr dX3_firstWrong_4 fl_RX3_9 rfl jsn f1 ?_
  obtain ⟨f2, hv⟩ := hv
  obtain ⟨f3, hv⟩ := hv
  refine jg_geti dX3_firstWrong_7 fl_RX3_22 rfl f2 f3 ?_
  refine jg_icmp_gt (tgt := 37) dX3_firstWrong_10 (by decide) (fun c4 => ?_) (fun c4 => ?_)
  · replace hv := hv.1 c4
    refine jg_iconst (v := (-1)) dX3_firstWrong_37 (by decide) ?_
    exact jg_iret dX3_firstWrong_38 rfl hv
  · replace hv := hv.2 c4
    refine jg_aload_n dX3_firstWrong_13 rfl (List.Mem.head _) ?_
    refine jg_aload_n dX3_firstWrong_14 rfl (List.Mem.head _) ?_
    refine jg_getr dX3_firstWrong_15 fl_RX3_9 rfl jsn f1 ?_
    refine jg_getr dX3_firstWrong_18 fl_RX3_28 rfl f2 f3 ?_
    refine jg_iload_n dX3_firstWrong_21 rfl (List.Mem.tail _ (List.Mem.head _)) ?_
    obtain ⟨f5, hv⟩ := hv
    obtain ⟨f6, hv⟩ := hv
    obtain ⟨f7, hv⟩ := hv
    refine jg_aald dX3_firstWrong_22 f5 f6 f7 ?_
    refine jp_callV mX3_isRight [.inr (.inr (jR h (jd (jr h 384 (jd (jr h 64 a0)))) (x1 : Int32).toNatClampNeg))] [] dX3_firstWrong_23 rfl cl_RX3_148 ⟨⟨by decide, by decide⟩, by decide⟩ jsn f1 (Nat.zero_le _) (Nat.zero_le _) (jM.mono (jki_k (fun r8 h9 hv => ?_)) hv)
    refine jg_if_ne (tgt := 31) dX3_firstWrong_26 (by decide) (fun c10 => ?_) (fun c10 => ?_)
    · replace hv := hv.1 c10
      refine jg_iinc (v := (x1) + 1) (lv' := [(1, .inl ((x1) + 1)), (0, .inr (.inr (some (a0))))]) dX3_firstWrong_31 (List.Mem.tail _ (List.Mem.head _)) rfl (by decide) rfl ?_
      refine jg_goto (tgt := 2) dX3_firstWrong_34 (by decide) ?_
      refine jG.sub (lv' := [(0, .inr (.inr (some (a0)))), (1, .inl ((x1) + 1))]) (by simp) ?_
      exact hv
    · replace hv := hv.2 c10
      refine jg_iload_n dX3_firstWrong_29 rfl (List.Mem.tail _ (List.Mem.head _)) ?_
      exact jg_iret dX3_firstWrong_30 rfl hv
def VX3_firstWrong_0 (g : jg) (a0 : Nat) (h : jh) (k n : Nat) (Q : jq) : Prop := jG g mX3_firstWrong 2 [(0, .inr (.inr (some (a0)))), (1, .inl (1))] [] h k n Q
set_option maxRecDepth 20000 in
theorem vX3_firstWrong_0 {g : jg} {a0 : Nat} {h : jh} {k n : Nat} {Q : jq} (hv : VX3_firstWrong_0 g a0 h k n Q) : jG g mX3_firstWrong 0 [(0, .inr (.inr (some (a0))))] [] h k n Q := by
  unfold VX3_firstWrong_0 at hv
  refine jg_iconst (v := 1) dX3_firstWrong_0 (by decide) ?_
  refine jg_istore_n (lv' := [(1, .inl (1)), (0, .inr (.inr (some (a0))))]) dX3_firstWrong_1 rfl (by decide) rfl ?_
  refine jG.sub (lv' := [(0, .inr (.inr (some (a0)))), (1, .inl (1))]) (by simp) ?_
  exact hv
theorem eX3_firstWrong {g : jg} {a0 : Nat} {h : jh} {mc ms : Nat} {Q : jq} (hv : VX3_firstWrong_0 g a0 h mc ms Q) : jM g mX3_firstWrong [.inr (.inr (some (a0)))] h mc ms Q := jM.of (by decide) (Nat.le_of_ble_eq_true rfl) (lv := [(0, .inr (.inr (some (a0))))]) rfl (vX3_firstWrong_0 hv)
theorem dX3_isRight_0 : decode cX3_isRight 0 = .ok (.aload_n 1, 1) := by decide +kernel
theorem dX3_isRight_1 : decode cX3_isRight 1 = .ok (.getfield 151, 3) := by decide +kernel
theorem dX3_isRight_4 : decode cX3_isRight 4 = .ok (.bipush 88, 2) := by decide +kernel
theorem dX3_isRight_6 : decode cX3_isRight 6 = .ok (.if_icmp .ne 16, 3) := by decide +kernel
theorem dX3_isRight_9 : decode cX3_isRight 9 = .ok (.aload_n 1, 1) := by decide +kernel
theorem dX3_isRight_10 : decode cX3_isRight 10 = .ok (.getfield 154, 3) := by decide +kernel
theorem dX3_isRight_13 : decode cX3_isRight 13 = .ok (.ifnull 7, 3) := by decide +kernel
theorem dX3_isRight_16 : decode cX3_isRight 16 = .ok (.iconst 1, 1) := by decide +kernel
theorem dX3_isRight_17 : decode cX3_isRight 17 = .ok (.goto 4, 3) := by decide +kernel
theorem dX3_isRight_20 : decode cX3_isRight 20 = .ok (.iconst 0, 1) := by decide +kernel
theorem dX3_isRight_21 : decode cX3_isRight 21 = .ok (.ireturn, 1) := by decide +kernel
theorem dX3_isRight_22 : decode cX3_isRight 22 = .ok (.aload_n 1, 1) := by decide +kernel
theorem dX3_isRight_23 : decode cX3_isRight 23 = .ok (.getfield 151, 3) := by decide +kernel
theorem dX3_isRight_26 : decode cX3_isRight 26 = .ok (.bipush 66, 2) := by decide +kernel
theorem dX3_isRight_28 : decode cX3_isRight 28 = .ok (.if_icmp .ne 16, 3) := by decide +kernel
theorem dX3_isRight_31 : decode cX3_isRight 31 = .ok (.aload_n 0, 1) := by decide +kernel
theorem dX3_isRight_32 : decode cX3_isRight 32 = .ok (.aload_n 1, 1) := by decide +kernel
theorem dX3_isRight_33 : decode cX3_isRight 33 = .ok (.getfield 139, 3) := by decide +kernel
theorem dX3_isRight_36 : decode cX3_isRight 36 = .ok (.aload_n 1, 1) := by decide +kernel
theorem dX3_isRight_37 : decode cX3_isRight 37 = .ok (.getfield 142, 3) := by decide +kernel
theorem dX3_isRight_40 : decode cX3_isRight 40 = .ok (.invokevirtual 158, 3) := by decide +kernel
theorem dX3_isRight_43 : decode cX3_isRight 43 = .ok (.ireturn, 1) := by decide +kernel
theorem dX3_isRight_44 : decode cX3_isRight 44 = .ok (.aload_n 1, 1) := by decide +kernel
theorem dX3_isRight_45 : decode cX3_isRight 45 = .ok (.getfield 162, 3) := by decide +kernel
theorem dX3_isRight_48 : decode cX3_isRight 48 = .ok (.ifCond .ne 12, 3) := by decide +kernel
theorem dX3_isRight_51 : decode cX3_isRight 51 = .ok (.aload_n 1, 1) := by decide +kernel
theorem dX3_isRight_52 : decode cX3_isRight 52 = .ok (.getfield 165, 3) := by decide +kernel
theorem dX3_isRight_55 : decode cX3_isRight 55 = .ok (.ifCond .ne 5, 3) := by decide +kernel
theorem dX3_isRight_58 : decode cX3_isRight 58 = .ok (.iconst 0, 1) := by decide +kernel
theorem dX3_isRight_59 : decode cX3_isRight 59 = .ok (.ireturn, 1) := by decide +kernel
theorem dX3_isRight_60 : decode cX3_isRight 60 = .ok (.aload_n 1, 1) := by decide +kernel
theorem dX3_isRight_61 : decode cX3_isRight 61 = .ok (.getfield 90, 3) := by decide +kernel
theorem dX3_isRight_64 : decode cX3_isRight 64 = .ok (.ifnull 23, 3) := by decide +kernel
theorem dX3_isRight_67 : decode cX3_isRight 67 = .ok (.aload_n 1, 1) := by decide +kernel
theorem dX3_isRight_68 : decode cX3_isRight 68 = .ok (.getfield 90, 3) := by decide +kernel
theorem dX3_isRight_71 : decode cX3_isRight 71 = .ok (.getfield 145, 3) := by decide +kernel
theorem dX3_isRight_74 : decode cX3_isRight 74 = .ok (.ifCond .eq 13, 3) := by decide +kernel
theorem dX3_isRight_77 : decode cX3_isRight 77 = .ok (.aload_n 0, 1) := by decide +kernel
theorem dX3_isRight_78 : decode cX3_isRight 78 = .ok (.aload_n 1, 1) := by decide +kernel
theorem dX3_isRight_79 : decode cX3_isRight 79 = .ok (.invokevirtual 168, 3) := by decide +kernel
theorem dX3_isRight_82 : decode cX3_isRight 82 = .ok (.ifCond .ne 5, 3) := by decide +kernel
theorem dX3_isRight_85 : decode cX3_isRight 85 = .ok (.iconst 0, 1) := by decide +kernel
theorem dX3_isRight_86 : decode cX3_isRight 86 = .ok (.ireturn, 1) := by decide +kernel
theorem dX3_isRight_87 : decode cX3_isRight 87 = .ok (.aload_n 1, 1) := by decide +kernel
theorem dX3_isRight_88 : decode cX3_isRight 88 = .ok (.getfield 104, 3) := by decide +kernel
theorem dX3_isRight_91 : decode cX3_isRight 91 = .ok (.ifnull 14, 3) := by decide +kernel
theorem dX3_isRight_94 : decode cX3_isRight 94 = .ok (.aload_n 1, 1) := by decide +kernel
theorem dX3_isRight_95 : decode cX3_isRight 95 = .ok (.aload_n 1, 1) := by decide +kernel
theorem dX3_isRight_96 : decode cX3_isRight 96 = .ok (.getfield 104, 3) := by decide +kernel
theorem dX3_isRight_99 : decode cX3_isRight 99 = .ok (.invokestatic 171, 3) := by decide +kernel
theorem dX3_isRight_102 : decode cX3_isRight 102 = .ok (.ifCond .eq 15, 3) := by decide +kernel
theorem dX3_isRight_105 : decode cX3_isRight 105 = .ok (.aload_n 0, 1) := by decide +kernel
theorem dX3_isRight_106 : decode cX3_isRight 106 = .ok (.aload_n 1, 1) := by decide +kernel
theorem dX3_isRight_107 : decode cX3_isRight 107 = .ok (.invokevirtual 174, 3) := by decide +kernel
theorem dX3_isRight_110 : decode cX3_isRight 110 = .ok (.ifCond .eq 7, 3) := by decide +kernel
theorem dX3_isRight_113 : decode cX3_isRight 113 = .ok (.iconst 1, 1) := by decide +kernel
theorem dX3_isRight_114 : decode cX3_isRight 114 = .ok (.goto 4, 3) := by decide +kernel
theorem dX3_isRight_117 : decode cX3_isRight 117 = .ok (.iconst 0, 1) := by decide +kernel
theorem dX3_isRight_118 : decode cX3_isRight 118 = .ok (.ireturn, 1) := by decide +kernel
def VX3_isRight_105 (g : jg) (a0 : Nat) (o1 : Option Nat) (h : jh) (k n : Nat) (Q : jq) : Prop := (jt h a0 = 2) ∧ jM g mX3_fitsFirstOfName [.inr (.inr (some a0)), .inr (.inr (o1))] h 0 0 (jki (fun (r2 : Int32) (h3 : jh) => (((r2) = 0 → Q (.inl (some (.inl (0)))) h3) ∧ (¬ (r2) = 0 → Q (.inl (some (.inl (1)))) h3))) (fun e h9 => Q (.inr e) h9))
set_option maxRecDepth 20000 in
theorem vX3_isRight_105 {g : jg} {a0 : Nat} {o1 : Option Nat} {h : jh} {k n : Nat} {Q : jq} (hv : VX3_isRight_105 g a0 o1 h k n Q) : jG g mX3_isRight 105 [(0, .inr (.inr (some (a0)))), (1, .inr (.inr (o1)))] [] h k n Q := by
  unfold VX3_isRight_105 at hv
  refine jg_aload_n dX3_isRight_105 rfl (List.Mem.head _) ?_
  refine jg_aload_n dX3_isRight_106 rfl (List.Mem.tail _ (List.Mem.head _)) ?_
  obtain ⟨f1, hv⟩ := hv
  refine jp_callV mX3_fitsFirstOfName [.inr (.inr (o1))] [] dX3_isRight_107 rfl cl_RX3_174 ⟨⟨by decide, by decide⟩, by decide⟩ jsn f1 (Nat.zero_le _) (Nat.zero_le _) (jM.mono (jki_k (fun r2 h3 hv => ?_)) hv)
  refine jg_if_eq (tgt := 117) dX3_isRight_110 (by decide) (fun c4 => ?_) (fun c4 => ?_)
  · replace hv := hv.1 c4
    refine jg_iconst (v := 0) dX3_isRight_117 (by decide) ?_
    exact jg_bret dX3_isRight_118 rfl (by decide) hv
  · replace hv := hv.2 c4
    refine jg_iconst (v := 1) dX3_isRight_113 (by decide) ?_
    refine jg_goto (tgt := 118) dX3_isRight_114 (by decide) ?_
    exact jg_bret dX3_isRight_118 rfl (by decide) hv
def VX3_isRight_87 (g : jg) (a0 : Nat) (o1 : Option Nat) (h : jh) (k n : Nat) (Q : jq) : Prop := (¬ (o1) = none) ∧ (jt h (jd (o1)) = 1) ∧ (((jr h 17 (jd (o1))) = none → VX3_isRight_105 g (a0) (o1) h k n Q) ∧ (¬ (jr h 17 (jd (o1))) = none → jM g mX3_fitsOver [.inr (.inr (o1)), .inr (.inr (jr h 17 (jd (o1))))] h 0 0 (jki (fun (r8 : Int32) (h9 : jh) => (((r8) = 0 → Q (.inl (some (.inl (0)))) h9) ∧ (¬ (r8) = 0 → VX3_isRight_105 g (a0) (o1) h9 k n Q))) (fun e h9 => Q (.inr e) h9))))
set_option maxRecDepth 20000 in
theorem vX3_isRight_87 {g : jg} {a0 : Nat} {o1 : Option Nat} {h : jh} {k n : Nat} {Q : jq} (hv : VX3_isRight_87 g a0 o1 h k n Q) : jG g mX3_isRight 87 [(0, .inr (.inr (some (a0)))), (1, .inr (.inr (o1)))] [] h k n Q := by
  unfold VX3_isRight_87 at hv
  refine jg_aload_n dX3_isRight_87 rfl (List.Mem.tail _ (List.Mem.head _)) ?_
  obtain ⟨f5, hv⟩ := hv
  obtain ⟨f6, hv⟩ := hv
  refine jg_getr dX3_isRight_88 fl_RX3_104 rfl f5 f6 ?_
  refine jg_ifnull (tgt := 105) dX3_isRight_91 (by decide) (fun c7 => ?_) (fun c7 => ?_)
  · replace hv := hv.1 c7
    exact vX3_isRight_105 hv
  · replace hv := hv.2 c7
    refine jg_aload_n dX3_isRight_94 rfl (List.Mem.tail _ (List.Mem.head _)) ?_
    refine jg_aload_n dX3_isRight_95 rfl (List.Mem.tail _ (List.Mem.head _)) ?_
    refine jg_getr dX3_isRight_96 fl_RX3_104 rfl f5 f6 ?_
    refine jg_callS mX3_fitsOver [.inr (.inr (o1)), .inr (.inr (jr h 17 (jd (o1))))] [] dX3_isRight_99 rfl cl_RX3_171 ⟨⟨by decide, by decide⟩, by decide⟩ (Nat.zero_le _) (Nat.zero_le _) (jM.mono (jki_k (fun r8 h9 hv => ?_)) hv)
    refine jg_if_eq (tgt := 117) dX3_isRight_102 (by decide) (fun c10 => ?_) (fun c10 => ?_)
    · replace hv := hv.1 c10
      refine jg_iconst (v := 0) dX3_isRight_117 (by decide) ?_
      exact jg_bret dX3_isRight_118 rfl (by decide) hv
    · replace hv := hv.2 c10
      exact vX3_isRight_105 hv
def VX3_isRight_60 (g : jg) (a0 : Nat) (o1 : Option Nat) (h : jh) (k n : Nat) (Q : jq) : Prop := (¬ (o1) = none) ∧ (jt h (jd (o1)) = 1) ∧ (((jr h 10 (jd (o1))) = none → VX3_isRight_87 g (a0) (o1) h k n Q) ∧ (¬ (jr h 10 (jd (o1))) = none → (jt h (jd (jr h 10 (jd (o1)))) = 6) ∧ (((ji h 322 (jd (jr h 10 (jd (o1))))) = 0 → VX3_isRight_87 g (a0) (o1) h k n Q) ∧ (¬ (ji h 322 (jd (jr h 10 (jd (o1))))) = 0 → (jt h a0 = 2) ∧ jM g mX3_isLastOfRecord [.inr (.inr (some a0)), .inr (.inr (o1))] h 0 0 (jki (fun (r17 : Int32) (h18 : jh) => ((¬ (r17) = 0 → VX3_isRight_87 g (a0) (o1) h18 k n Q) ∧ ((r17) = 0 → Q (.inl (some (.inl (0)))) h18))) (fun e h9 => Q (.inr e) h9))))))
set_option maxRecDepth 20000 in
theorem vX3_isRight_60 {g : jg} {a0 : Nat} {o1 : Option Nat} {h : jh} {k n : Nat} {Q : jq} (hv : VX3_isRight_60 g a0 o1 h k n Q) : jG g mX3_isRight 60 [(0, .inr (.inr (some (a0)))), (1, .inr (.inr (o1)))] [] h k n Q := by
  unfold VX3_isRight_60 at hv
  refine jg_aload_n dX3_isRight_60 rfl (List.Mem.tail _ (List.Mem.head _)) ?_
  obtain ⟨f11, hv⟩ := hv
  obtain ⟨f12, hv⟩ := hv
  refine jg_getr dX3_isRight_61 fl_RX3_90 rfl f11 f12 ?_
  refine jg_ifnull (tgt := 87) dX3_isRight_64 (by decide) (fun c13 => ?_) (fun c13 => ?_)
  · replace hv := hv.1 c13
    exact vX3_isRight_87 hv
  · replace hv := hv.2 c13
    refine jg_aload_n dX3_isRight_67 rfl (List.Mem.tail _ (List.Mem.head _)) ?_
    refine jg_getr dX3_isRight_68 fl_RX3_90 rfl f11 f12 ?_
    obtain ⟨f14, hv⟩ := hv
    refine jg_geti dX3_isRight_71 fl_RX3_145 rfl c13 f14 ?_
    refine jg_if_eq (tgt := 87) dX3_isRight_74 (by decide) (fun c15 => ?_) (fun c15 => ?_)
    · replace hv := hv.1 c15
      exact vX3_isRight_87 hv
    · replace hv := hv.2 c15
      refine jg_aload_n dX3_isRight_77 rfl (List.Mem.head _) ?_
      refine jg_aload_n dX3_isRight_78 rfl (List.Mem.tail _ (List.Mem.head _)) ?_
      obtain ⟨f16, hv⟩ := hv
      refine jp_callV mX3_isLastOfRecord [.inr (.inr (o1))] [] dX3_isRight_79 rfl cl_RX3_168 ⟨⟨by decide, by decide⟩, by decide⟩ jsn f16 (Nat.zero_le _) (Nat.zero_le _) (jM.mono (jki_k (fun r17 h18 hv => ?_)) hv)
      refine jg_if_ne (tgt := 87) dX3_isRight_82 (by decide) (fun c19 => ?_) (fun c19 => ?_)
      · replace hv := hv.1 c19
        exact vX3_isRight_87 hv
      · replace hv := hv.2 c19
        refine jg_iconst (v := 0) dX3_isRight_85 (by decide) ?_
        exact jg_bret dX3_isRight_86 rfl (by decide) hv
def VX3_isRight_0 (g : jg) (a0 : Nat) (o1 : Option Nat) (h : jh) (k n : Nat) (Q : jq) : Prop := (¬ (o1) = none) ∧ (jt h (jd (o1)) = 1) ∧ ((¬ (ji h 1 (jd (o1))) = (88) → ((¬ (ji h 1 (jd (o1))) = (66) → ((¬ (ji h 2 (jd (o1))) = 0 → VX3_isRight_60 g (a0) (o1) h k n Q) ∧ ((ji h 2 (jd (o1))) = 0 → ((¬ (ji h 9 (jd (o1))) = 0 → VX3_isRight_60 g (a0) (o1) h k n Q) ∧ ((ji h 9 (jd (o1))) = 0 → Q (.inl (some (.inl (0)))) h))))) ∧ ((ji h 1 (jd (o1))) = (66) → (jt h a0 = 2) ∧ jM g mX3_isRightPart [.inr (.inr (some a0)), .inr (.inr (jr h 15 (jd (o1)))), .inr (.inr (jr h 16 (jd (o1))))] h 0 0 (jki (fun (r27 : Int32) (h28 : jh) => ((r27) = 0 ∨ (r27) = 1) ∧ Q (.inl (some (.inl (r27)))) h28) (fun e h9 => Q (.inr e) h9))))) ∧ ((ji h 1 (jd (o1))) = (88) → (((jr h 14 (jd (o1))) = none → Q (.inl (some (.inl (0)))) h) ∧ (¬ (jr h 14 (jd (o1))) = none → Q (.inl (some (.inl (1)))) h))))
set_option maxRecDepth 20000 in
theorem vX3_isRight_0 {g : jg} {a0 : Nat} {o1 : Option Nat} {h : jh} {k n : Nat} {Q : jq} (hv : VX3_isRight_0 g a0 o1 h k n Q) : jG g mX3_isRight 0 [(0, .inr (.inr (some (a0)))), (1, .inr (.inr (o1)))] [] h k n Q := by
  unfold VX3_isRight_0 at hv
  refine jg_aload_n dX3_isRight_0 rfl (List.Mem.tail _ (List.Mem.head _)) ?_
  obtain ⟨f20, hv⟩ := hv
  obtain ⟨f21, hv⟩ := hv
  refine jg_geti dX3_isRight_1 fl_RX3_151 rfl f20 f21 ?_
  refine jg_bipush (v := 88) dX3_isRight_4 (by decide) ?_
  refine jg_icmp_ne (tgt := 22) dX3_isRight_6 (by decide) (fun c22 => ?_) (fun c22 => ?_)
  · replace hv := hv.1 c22
    refine jg_aload_n dX3_isRight_22 rfl (List.Mem.tail _ (List.Mem.head _)) ?_
    refine jg_geti dX3_isRight_23 fl_RX3_151 rfl f20 f21 ?_
    refine jg_bipush (v := 66) dX3_isRight_26 (by decide) ?_
    refine jg_icmp_ne (tgt := 44) dX3_isRight_28 (by decide) (fun c23 => ?_) (fun c23 => ?_)
    · replace hv := hv.1 c23
      refine jg_aload_n dX3_isRight_44 rfl (List.Mem.tail _ (List.Mem.head _)) ?_
      refine jg_geti dX3_isRight_45 fl_RX3_162 rfl f20 f21 ?_
      refine jg_if_ne (tgt := 60) dX3_isRight_48 (by decide) (fun c24 => ?_) (fun c24 => ?_)
      · replace hv := hv.1 c24
        exact vX3_isRight_60 hv
      · replace hv := hv.2 c24
        refine jg_aload_n dX3_isRight_51 rfl (List.Mem.tail _ (List.Mem.head _)) ?_
        refine jg_geti dX3_isRight_52 fl_RX3_165 rfl f20 f21 ?_
        refine jg_if_ne (tgt := 60) dX3_isRight_55 (by decide) (fun c25 => ?_) (fun c25 => ?_)
        · replace hv := hv.1 c25
          exact vX3_isRight_60 hv
        · replace hv := hv.2 c25
          refine jg_iconst (v := 0) dX3_isRight_58 (by decide) ?_
          exact jg_bret dX3_isRight_59 rfl (by decide) hv
    · replace hv := hv.2 c23
      refine jg_aload_n dX3_isRight_31 rfl (List.Mem.head _) ?_
      refine jg_aload_n dX3_isRight_32 rfl (List.Mem.tail _ (List.Mem.head _)) ?_
      refine jg_getr dX3_isRight_33 fl_RX3_139 rfl f20 f21 ?_
      refine jg_aload_n dX3_isRight_36 rfl (List.Mem.tail _ (List.Mem.head _)) ?_
      refine jg_getr dX3_isRight_37 fl_RX3_142 rfl f20 f21 ?_
      obtain ⟨f26, hv⟩ := hv
      refine jp_callV mX3_isRightPart [.inr (.inr (jr h 15 (jd (o1)))), .inr (.inr (jr h 16 (jd (o1))))] [] dX3_isRight_40 rfl cl_RX3_158 ⟨⟨by decide, by decide⟩, by decide⟩ jsn f26 (Nat.zero_le _) (Nat.zero_le _) (jM.mono (jki_k (fun r27 h28 hv => ?_)) hv)
      obtain ⟨f29, hv⟩ := hv
      exact jg_bret dX3_isRight_43 rfl f29 hv
  · replace hv := hv.2 c22
    refine jg_aload_n dX3_isRight_9 rfl (List.Mem.tail _ (List.Mem.head _)) ?_
    refine jg_getr dX3_isRight_10 fl_RX3_154 rfl f20 f21 ?_
    refine jg_ifnull (tgt := 20) dX3_isRight_13 (by decide) (fun c30 => ?_) (fun c30 => ?_)
    · replace hv := hv.1 c30
      refine jg_iconst (v := 0) dX3_isRight_20 (by decide) ?_
      exact jg_bret dX3_isRight_21 rfl (by decide) hv
    · replace hv := hv.2 c30
      refine jg_iconst (v := 1) dX3_isRight_16 (by decide) ?_
      refine jg_goto (tgt := 21) dX3_isRight_17 (by decide) ?_
      exact jg_bret dX3_isRight_21 rfl (by decide) hv
theorem eX3_isRight {g : jg} {a0 : Nat} {o1 : Option Nat} {h : jh} {mc ms : Nat} {Q : jq} (hv : VX3_isRight_0 g a0 o1 h mc ms Q) : jM g mX3_isRight [.inr (.inr (some (a0))), .inr (.inr (o1))] h mc ms Q := jM.of (by decide) (Nat.le_of_ble_eq_true rfl) (lv := [(0, .inr (.inr (some (a0)))), (1, .inr (.inr (o1)))]) rfl (vX3_isRight_0 hv)
theorem dX3_isRightPart_0 : decode cX3_isRightPart 0 = .ok (.aload_n 1, 1) := by decide +kernel
theorem dX3_isRightPart_1 : decode cX3_isRightPart 1 = .ok (.ifnull 7, 3) := by decide +kernel
theorem dX3_isRightPart_4 : decode cX3_isRightPart 4 = .ok (.aload_n 2, 1) := by decide +kernel
theorem dX3_isRightPart_5 : decode cX3_isRightPart 5 = .ok (.ifnonnull 5, 3) := by decide +kernel
theorem dX3_isRightPart_8 : decode cX3_isRightPart 8 = .ok (.iconst 0, 1) := by decide +kernel
theorem dX3_isRightPart_9 : decode cX3_isRightPart 9 = .ok (.ireturn, 1) := by decide +kernel
theorem dX3_isRightPart_10 : decode cX3_isRightPart 10 = .ok (.aload_n 1, 1) := by decide +kernel
theorem dX3_isRightPart_11 : decode cX3_isRightPart 11 = .ok (.invokevirtual 177, 3) := by decide +kernel
theorem dX3_isRightPart_14 : decode cX3_isRightPart 14 = .ok (.ifCond .ne 10, 3) := by decide +kernel
theorem dX3_isRightPart_17 : decode cX3_isRightPart 17 = .ok (.aload_n 2, 1) := by decide +kernel
theorem dX3_isRightPart_18 : decode cX3_isRightPart 18 = .ok (.invokevirtual 177, 3) := by decide +kernel
theorem dX3_isRightPart_21 : decode cX3_isRightPart 21 = .ok (.ifCond .eq 5, 3) := by decide +kernel
theorem dX3_isRightPart_24 : decode cX3_isRightPart 24 = .ok (.iconst 0, 1) := by decide +kernel
theorem dX3_isRightPart_25 : decode cX3_isRightPart 25 = .ok (.ireturn, 1) := by decide +kernel
theorem dX3_isRightPart_26 : decode cX3_isRightPart 26 = .ok (.aload_n 1, 1) := by decide +kernel
theorem dX3_isRightPart_27 : decode cX3_isRightPart 27 = .ok (.getfield 180, 3) := by decide +kernel
theorem dX3_isRightPart_30 : decode cX3_isRightPart 30 = .ok (.istore_n 3, 1) := by decide +kernel
theorem dX3_isRightPart_31 : decode cX3_isRightPart 31 = .ok (.iload_n 3, 1) := by decide +kernel
theorem dX3_isRightPart_32 : decode cX3_isRightPart 32 = .ok (.aload_n 0, 1) := by decide +kernel
theorem dX3_isRightPart_33 : decode cX3_isRightPart 33 = .ok (.getfield 9, 3) := by decide +kernel
theorem dX3_isRightPart_36 : decode cX3_isRightPart 36 = .ok (.getfield 22, 3) := by decide +kernel
theorem dX3_isRightPart_39 : decode cX3_isRightPart 39 = .ok (.if_icmp .gt 47, 3) := by decide +kernel
theorem dX3_isRightPart_42 : decode cX3_isRightPart 42 = .ok (.aload_n 0, 1) := by decide +kernel
theorem dX3_isRightPart_43 : decode cX3_isRightPart 43 = .ok (.getfield 9, 3) := by decide +kernel
theorem dX3_isRightPart_46 : decode cX3_isRightPart 46 = .ok (.getfield 28, 3) := by decide +kernel
theorem dX3_isRightPart_49 : decode cX3_isRightPart 49 = .ok (.iload_n 3, 1) := by decide +kernel
theorem dX3_isRightPart_50 : decode cX3_isRightPart 50 = .ok (.aaload, 1) := by decide +kernel
theorem dX3_isRightPart_51 : decode cX3_isRightPart 51 = .ok (.astore 4, 2) := by decide +kernel
theorem dX3_isRightPart_53 : decode cX3_isRightPart 53 = .ok (.iload_n 3, 1) := by decide +kernel
theorem dX3_isRightPart_54 : decode cX3_isRightPart 54 = .ok (.aload_n 2, 1) := by decide +kernel
theorem dX3_isRightPart_55 : decode cX3_isRightPart 55 = .ok (.getfield 180, 3) := by decide +kernel
theorem dX3_isRightPart_58 : decode cX3_isRightPart 58 = .ok (.if_icmp .le 12, 3) := by decide +kernel
theorem dX3_isRightPart_61 : decode cX3_isRightPart 61 = .ok (.aload 4, 2) := by decide +kernel
theorem dX3_isRightPart_63 : decode cX3_isRightPart 63 = .ok (.aload_n 2, 1) := by decide +kernel
theorem dX3_isRightPart_64 : decode cX3_isRightPart 64 = .ok (.invokevirtual 183, 3) := by decide +kernel
theorem dX3_isRightPart_67 : decode cX3_isRightPart 67 = .ok (.ifCond .eq 13, 3) := by decide +kernel
theorem dX3_isRightPart_70 : decode cX3_isRightPart 70 = .ok (.aload 4, 2) := by decide +kernel
theorem dX3_isRightPart_72 : decode cX3_isRightPart 72 = .ok (.invokevirtual 186, 3) := by decide +kernel
theorem dX3_isRightPart_75 : decode cX3_isRightPart 75 = .ok (.ifCond .le 5, 3) := by decide +kernel
theorem dX3_isRightPart_78 : decode cX3_isRightPart 78 = .ok (.iconst 0, 1) := by decide +kernel
theorem dX3_isRightPart_79 : decode cX3_isRightPart 79 = .ok (.ireturn, 1) := by decide +kernel
theorem dX3_isRightPart_80 : decode cX3_isRightPart 80 = .ok (.iinc 3 1, 3) := by decide +kernel
theorem dX3_isRightPart_83 : decode cX3_isRightPart 83 = .ok (.goto (-52), 3) := by decide +kernel
theorem dX3_isRightPart_86 : decode cX3_isRightPart 86 = .ok (.iconst 1, 1) := by decide +kernel
theorem dX3_isRightPart_87 : decode cX3_isRightPart 87 = .ok (.ireturn, 1) := by decide +kernel
def VX3_isRightPart_31 (g : jg) (a0 : Nat) (o2 : Option Nat) (x3 : Int32) (h : jh) (k n : Nat) (Q : jq) : Prop := (jt h a0 = 2) ∧ (¬ (jr h 64 a0) = none) ∧ (jt h (jd (jr h 64 a0)) = 7) ∧ (((ji h 385 (jd (jr h 64 a0))) < (x3) → Q (.inl (some (.inl (1)))) h) ∧ (¬ (ji h 385 (jd (jr h 64 a0))) < (x3) → (¬ (jr h 384 (jd (jr h 64 a0))) = none) ∧ (jt h (jd (jr h 384 (jd (jr h 64 a0)))) = 23) ∧ (vp_in (x3) (jn h (jd (jr h 384 (jd (jr h 64 a0)))))) ∧ (¬ (o2) = none) ∧ (jt h (jd (o2)) = 1) ∧ (((x3) ≤ (ji h 0 (jd (o2))) → (¬ (jR h (jd (jr h 384 (jd (jr h 64 a0)))) (x3 : Int32).toNatClampNeg) = none) ∧ (jt h (jd (jR h (jd (jr h 384 (jd (jr h 64 a0)))) (x3 : Int32).toNatClampNeg)) = 1) ∧ jM g mX0_tablesWithin [.inr (.inr (some (jd (jR h (jd (jr h 384 (jd (jr h 64 a0)))) (x3 : Int32).toNatClampNeg))))] h 0 0 (jki (fun (r13 : Int32) (h14 : jh) => (((r13) ≤ 0 → jG g mX3_isRightPart 31 [(0, .inr (.inr (some (a0)))), (2, .inr (.inr (o2))), (3, .inl ((x3) + 1))] [] h14 k n Q) ∧ (¬ (r13) ≤ 0 → Q (.inl (some (.inl (0)))) h14))) (fun e h9 => Q (.inr e) h9))) ∧ (¬ (x3) ≤ (ji h 0 (jd (o2))) → (¬ (jR h (jd (jr h 384 (jd (jr h 64 a0)))) (x3 : Int32).toNatClampNeg) = none) ∧ (jt h (jd (jR h (jd (jr h 384 (jd (jr h 64 a0)))) (x3 : Int32).toNatClampNeg)) = 1) ∧ jM g mX0_isBelow [.inr (.inr (some (jd (jR h (jd (jr h 384 (jd (jr h 64 a0)))) (x3 : Int32).toNatClampNeg)))), .inr (.inr (o2))] h 0 0 (jki (fun (r18 : Int32) (h19 : jh) => (((r18) = 0 → jG g mX3_isRightPart 31 [(0, .inr (.inr (some (a0)))), (2, .inr (.inr (o2))), (3, .inl ((x3) + 1))] [] h19 k n Q) ∧ (¬ (r18) = 0 → (jt h19 (jd (jR h (jd (jr h 384 (jd (jr h 64 a0)))) (x3 : Int32).toNatClampNeg)) = 1) ∧ jM g mX0_tablesWithin [.inr (.inr (some (jd (jR h (jd (jr h 384 (jd (jr h 64 a0)))) (x3 : Int32).toNatClampNeg))))] h19 0 0 (jki (fun (r22 : Int32) (h23 : jh) => (((r22) ≤ 0 → jG g mX3_isRightPart 31 [(0, .inr (.inr (some (a0)))), (2, .inr (.inr (o2))), (3, .inl ((x3) + 1))] [] h23 k n Q) ∧ (¬ (r22) ≤ 0 → Q (.inl (some (.inl (0)))) h23))) (fun e h9 => Q (.inr e) h9))))) (fun e h9 => Q (.inr e) h9))))))
set_option maxRecDepth 20000 in
theorem vX3_isRightPart_31 {g : jg} {a0 : Nat} {o2 : Option Nat} {x3 : Int32} {h : jh} {k n : Nat} {Q : jq} (hv : VX3_isRightPart_31 g a0 o2 x3 h k n Q) : jG g mX3_isRightPart 31 [(0, .inr (.inr (some (a0)))), (2, .inr (.inr (o2))), (3, .inl (x3))] [] h k n Q := by
  unfold VX3_isRightPart_31 at hv
  refine jg_iload_n dX3_isRightPart_31 rfl (List.Mem.tail _ (List.Mem.tail _ (List.Mem.head _))) ?_
  refine jg_aload_n dX3_isRightPart_32 rfl (List.Mem.head _) ?_
  obtain ⟨f1, hv⟩ := hv
  refine jg_getr dX3_isRightPart_33 fl_RX3_9 rfl jsn f1 ?_
  obtain ⟨f2, hv⟩ := hv
  obtain ⟨f3, hv⟩ := hv
  refine jg_geti dX3_isRightPart_36 fl_RX3_22 rfl f2 f3 ?_
  refine jg_icmp_gt (tgt := 86) dX3_isRightPart_39 (by decide) (fun c4 => ?_) (fun c4 => ?_)
  · replace hv := hv.1 c4
    refine jg_iconst (v := 1) dX3_isRightPart_86 (by decide) ?_
    exact jg_bret dX3_isRightPart_87 rfl (by decide) hv
  · replace hv := hv.2 c4
    refine jg_aload_n dX3_isRightPart_42 rfl (List.Mem.head _) ?_
    refine jg_getr dX3_isRightPart_43 fl_RX3_9 rfl jsn f1 ?_
    refine jg_getr dX3_isRightPart_46 fl_RX3_28 rfl f2 f3 ?_
    refine jg_iload_n dX3_isRightPart_49 rfl (List.Mem.tail _ (List.Mem.tail _ (List.Mem.head _))) ?_
    obtain ⟨f5, hv⟩ := hv
    obtain ⟨f6, hv⟩ := hv
    obtain ⟨f7, hv⟩ := hv
    refine jg_aald dX3_isRightPart_50 f5 f6 f7 ?_
    refine jg_astore (lv' := [(4, .inr (.inr (jR h (jd (jr h 384 (jd (jr h 64 a0)))) (x3 : Int32).toNatClampNeg))), (0, .inr (.inr (some (a0)))), (2, .inr (.inr (o2))), (3, .inl (x3))]) dX3_isRightPart_51 (by decide) rfl ?_
    refine jg_iload_n dX3_isRightPart_53 rfl (List.Mem.tail _ (List.Mem.tail _ (List.Mem.tail _ (List.Mem.head _)))) ?_
    refine jg_aload_n dX3_isRightPart_54 rfl (List.Mem.tail _ (List.Mem.tail _ (List.Mem.head _))) ?_
    obtain ⟨f8, hv⟩ := hv
    obtain ⟨f9, hv⟩ := hv
    refine jg_geti dX3_isRightPart_55 fl_RX3_180 rfl f8 f9 ?_
    refine jg_icmp_le (tgt := 70) dX3_isRightPart_58 (by decide) (fun c10 => ?_) (fun c10 => ?_)
    · replace hv := hv.1 c10
      refine jg_aload dX3_isRightPart_70 (List.Mem.head _) ?_
      obtain ⟨f11, hv⟩ := hv
      obtain ⟨f12, hv⟩ := hv
      refine jp_callV mX0_tablesWithin [] [] dX3_isRightPart_72 rfl cl_RX3_186 ⟨⟨by decide, by decide⟩, by decide⟩ f11 f12 (Nat.zero_le _) (Nat.zero_le _) (jM.mono (jki_k (fun r13 h14 hv => ?_)) hv)
      refine jg_if_le (tgt := 80) dX3_isRightPart_75 (by decide) (fun c15 => ?_) (fun c15 => ?_)
      · replace hv := hv.1 c15
        refine jg_iinc (v := (x3) + 1) (lv' := [(3, .inl ((x3) + 1)), (4, .inr (.inr (jR h (jd (jr h 384 (jd (jr h 64 a0)))) (x3 : Int32).toNatClampNeg))), (0, .inr (.inr (some (a0)))), (2, .inr (.inr (o2)))]) dX3_isRightPart_80 (List.Mem.tail _ (List.Mem.tail _ (List.Mem.tail _ (List.Mem.head _)))) rfl (by decide) rfl ?_
        refine jg_goto (tgt := 31) dX3_isRightPart_83 (by decide) ?_
        refine jG.sub (lv' := [(0, .inr (.inr (some (a0)))), (2, .inr (.inr (o2))), (3, .inl ((x3) + 1))]) (by simp) ?_
        exact hv
      · replace hv := hv.2 c15
        refine jg_iconst (v := 0) dX3_isRightPart_78 (by decide) ?_
        exact jg_bret dX3_isRightPart_79 rfl (by decide) hv
    · replace hv := hv.2 c10
      refine jg_aload dX3_isRightPart_61 (List.Mem.head _) ?_
      refine jg_aload_n dX3_isRightPart_63 rfl (List.Mem.tail _ (List.Mem.tail _ (List.Mem.head _))) ?_
      obtain ⟨f16, hv⟩ := hv
      obtain ⟨f17, hv⟩ := hv
      refine jp_callV mX0_isBelow [.inr (.inr (o2))] [] dX3_isRightPart_64 rfl cl_RX3_183 ⟨⟨by decide, by decide⟩, by decide⟩ f16 f17 (Nat.zero_le _) (Nat.zero_le _) (jM.mono (jki_k (fun r18 h19 hv => ?_)) hv)
      refine jg_if_eq (tgt := 80) dX3_isRightPart_67 (by decide) (fun c20 => ?_) (fun c20 => ?_)
      · replace hv := hv.1 c20
        refine jg_iinc (v := (x3) + 1) (lv' := [(3, .inl ((x3) + 1)), (4, .inr (.inr (jR h (jd (jr h 384 (jd (jr h 64 a0)))) (x3 : Int32).toNatClampNeg))), (0, .inr (.inr (some (a0)))), (2, .inr (.inr (o2)))]) dX3_isRightPart_80 (List.Mem.tail _ (List.Mem.tail _ (List.Mem.tail _ (List.Mem.head _)))) rfl (by decide) rfl ?_
        refine jg_goto (tgt := 31) dX3_isRightPart_83 (by decide) ?_
        refine jG.sub (lv' := [(0, .inr (.inr (some (a0)))), (2, .inr (.inr (o2))), (3, .inl ((x3) + 1))]) (by simp) ?_
        exact hv
      · replace hv := hv.2 c20
        refine jg_aload dX3_isRightPart_70 (List.Mem.head _) ?_
        obtain ⟨f21, hv⟩ := hv
        refine jp_callV mX0_tablesWithin [] [] dX3_isRightPart_72 rfl cl_RX3_186 ⟨⟨by decide, by decide⟩, by decide⟩ f16 f21 (Nat.zero_le _) (Nat.zero_le _) (jM.mono (jki_k (fun r22 h23 hv => ?_)) hv)
        refine jg_if_le (tgt := 80) dX3_isRightPart_75 (by decide) (fun c24 => ?_) (fun c24 => ?_)
        · replace hv := hv.1 c24
          refine jg_iinc (v := (x3) + 1) (lv' := [(3, .inl ((x3) + 1)), (4, .inr (.inr (jR h (jd (jr h 384 (jd (jr h 64 a0)))) (x3 : Int32).toNatClampNeg))), (0, .inr (.inr (some (a0)))), (2, .inr (.inr (o2)))]) dX3_isRightPart_80 (List.Mem.tail _ (List.Mem.tail _ (List.Mem.tail _ (List.Mem.head _)))) rfl (by decide) rfl ?_
          refine jg_goto (tgt := 31) dX3_isRightPart_83 (by decide) ?_
          refine jG.sub (lv' := [(0, .inr (.inr (some (a0)))), (2, .inr (.inr (o2))), (3, .inl ((x3) + 1))]) (by simp) ?_
          exact hv
        · replace hv := hv.2 c24
          refine jg_iconst (v := 0) dX3_isRightPart_78 (by decide) ?_
          exact jg_bret dX3_isRightPart_79 rfl (by decide) hv
def VX3_isRightPart_0 (g : jg) (a0 : Nat) (o1 : Option Nat) (o2 : Option Nat) (h : jh) (k n : Nat) (Q : jq) : Prop := (((o1) = none → Q (.inl (some (.inl (0)))) h) ∧ (¬ (o1) = none → ((¬ (o2) = none → (jt h (jd (o1)) = 1) ∧ jM g mX0_liesInRedefining [.inr (.inr (some (jd (o1))))] h 0 0 (jki (fun (r28 : Int32) (h29 : jh) => ((¬ (r28) = 0 → Q (.inl (some (.inl (0)))) h29) ∧ ((r28) = 0 → (jt h29 (jd (o2)) = 1) ∧ jM g mX0_liesInRedefining [.inr (.inr (some (jd (o2))))] h29 0 0 (jki (fun (r32 : Int32) (h33 : jh) => (((r32) = 0 → (jt h33 (jd (o1)) = 1) ∧ jG g mX3_isRightPart 31 [(0, .inr (.inr (some (a0)))), (2, .inr (.inr (o2))), (3, .inl (ji h33 0 (jd (o1))))] [] h33 k n Q) ∧ (¬ (r32) = 0 → Q (.inl (some (.inl (0)))) h33))) (fun e h9 => Q (.inr e) h9))))) (fun e h9 => Q (.inr e) h9))) ∧ ((o2) = none → Q (.inl (some (.inl (0)))) h))))
set_option maxRecDepth 20000 in
theorem vX3_isRightPart_0 {g : jg} {a0 : Nat} {o1 : Option Nat} {o2 : Option Nat} {h : jh} {k n : Nat} {Q : jq} (hv : VX3_isRightPart_0 g a0 o1 o2 h k n Q) : jG g mX3_isRightPart 0 [(0, .inr (.inr (some (a0)))), (1, .inr (.inr (o1))), (2, .inr (.inr (o2)))] [] h k n Q := by
  unfold VX3_isRightPart_0 at hv
  refine jg_aload_n dX3_isRightPart_0 rfl (List.Mem.tail _ (List.Mem.head _)) ?_
  refine jg_ifnull (tgt := 8) dX3_isRightPart_1 (by decide) (fun c25 => ?_) (fun c25 => ?_)
  · replace hv := hv.1 c25
    refine jg_iconst (v := 0) dX3_isRightPart_8 (by decide) ?_
    exact jg_bret dX3_isRightPart_9 rfl (by decide) hv
  · replace hv := hv.2 c25
    refine jg_aload_n dX3_isRightPart_4 rfl (List.Mem.tail _ (List.Mem.tail _ (List.Mem.head _))) ?_
    refine jg_ifnonnull (tgt := 10) dX3_isRightPart_5 (by decide) (fun c26 => ?_) (fun c26 => ?_)
    · replace hv := hv.1 c26
      refine jg_aload_n dX3_isRightPart_10 rfl (List.Mem.tail _ (List.Mem.head _)) ?_
      obtain ⟨f27, hv⟩ := hv
      refine jp_callV mX0_liesInRedefining [] [] dX3_isRightPart_11 rfl cl_RX3_177 ⟨⟨by decide, by decide⟩, by decide⟩ c25 f27 (Nat.zero_le _) (Nat.zero_le _) (jM.mono (jki_k (fun r28 h29 hv => ?_)) hv)
      refine jg_if_ne (tgt := 24) dX3_isRightPart_14 (by decide) (fun c30 => ?_) (fun c30 => ?_)
      · replace hv := hv.1 c30
        refine jg_iconst (v := 0) dX3_isRightPart_24 (by decide) ?_
        exact jg_bret dX3_isRightPart_25 rfl (by decide) hv
      · replace hv := hv.2 c30
        refine jg_aload_n dX3_isRightPart_17 rfl (List.Mem.tail _ (List.Mem.tail _ (List.Mem.head _))) ?_
        obtain ⟨f31, hv⟩ := hv
        refine jp_callV mX0_liesInRedefining [] [] dX3_isRightPart_18 rfl cl_RX3_177 ⟨⟨by decide, by decide⟩, by decide⟩ c26 f31 (Nat.zero_le _) (Nat.zero_le _) (jM.mono (jki_k (fun r32 h33 hv => ?_)) hv)
        refine jg_if_eq (tgt := 26) dX3_isRightPart_21 (by decide) (fun c34 => ?_) (fun c34 => ?_)
        · replace hv := hv.1 c34
          refine jg_aload_n dX3_isRightPart_26 rfl (List.Mem.tail _ (List.Mem.head _)) ?_
          obtain ⟨f35, hv⟩ := hv
          refine jg_geti dX3_isRightPart_27 fl_RX3_180 rfl c25 f35 ?_
          refine jg_istore_n (lv' := [(3, .inl (ji h33 0 (jd (o1)))), (0, .inr (.inr (some (a0)))), (1, .inr (.inr (o1))), (2, .inr (.inr (o2)))]) dX3_isRightPart_30 rfl (by decide) rfl ?_
          refine jG.sub (lv' := [(0, .inr (.inr (some (a0)))), (2, .inr (.inr (o2))), (3, .inl (ji h33 0 (jd (o1))))]) (by simp) ?_
          exact hv
        · replace hv := hv.2 c34
          refine jg_iconst (v := 0) dX3_isRightPart_24 (by decide) ?_
          exact jg_bret dX3_isRightPart_25 rfl (by decide) hv
    · replace hv := hv.2 c26
      refine jg_iconst (v := 0) dX3_isRightPart_8 (by decide) ?_
      exact jg_bret dX3_isRightPart_9 rfl (by decide) hv
theorem eX3_isRightPart {g : jg} {a0 : Nat} {o1 : Option Nat} {o2 : Option Nat} {h : jh} {mc ms : Nat} {Q : jq} (hv : VX3_isRightPart_0 g a0 o1 o2 h mc ms Q) : jM g mX3_isRightPart [.inr (.inr (some (a0))), .inr (.inr (o1)), .inr (.inr (o2))] h mc ms Q := jM.of (by decide) (Nat.le_of_ble_eq_true rfl) (lv := [(0, .inr (.inr (some (a0)))), (1, .inr (.inr (o1))), (2, .inr (.inr (o2)))]) rfl (vX3_isRightPart_0 hv)
theorem dX3_isLastOfRecord_0 : decode cX3_isLastOfRecord 0 = .ok (.aload_n 1, 1) := by decide +kernel
theorem dX3_isLastOfRecord_1 : decode cX3_isLastOfRecord 1 = .ok (.getfield 180, 3) := by decide +kernel
theorem dX3_isLastOfRecord_4 : decode cX3_isLastOfRecord 4 = .ok (.iconst 1, 1) := by decide +kernel
theorem dX3_isLastOfRecord_5 : decode cX3_isLastOfRecord 5 = .ok (.iadd, 1) := by decide +kernel
theorem dX3_isLastOfRecord_6 : decode cX3_isLastOfRecord 6 = .ok (.istore_n 2, 1) := by decide +kernel
theorem dX3_isLastOfRecord_7 : decode cX3_isLastOfRecord 7 = .ok (.iload_n 2, 1) := by decide +kernel
theorem dX3_isLastOfRecord_8 : decode cX3_isLastOfRecord 8 = .ok (.aload_n 0, 1) := by decide +kernel
theorem dX3_isLastOfRecord_9 : decode cX3_isLastOfRecord 9 = .ok (.getfield 9, 3) := by decide +kernel
theorem dX3_isLastOfRecord_12 : decode cX3_isLastOfRecord 12 = .ok (.getfield 22, 3) := by decide +kernel
theorem dX3_isLastOfRecord_15 : decode cX3_isLastOfRecord 15 = .ok (.if_icmp .gt 47, 3) := by decide +kernel
theorem dX3_isLastOfRecord_18 : decode cX3_isLastOfRecord 18 = .ok (.aload_n 0, 1) := by decide +kernel
theorem dX3_isLastOfRecord_19 : decode cX3_isLastOfRecord 19 = .ok (.getfield 9, 3) := by decide +kernel
theorem dX3_isLastOfRecord_22 : decode cX3_isLastOfRecord 22 = .ok (.getfield 28, 3) := by decide +kernel
theorem dX3_isLastOfRecord_25 : decode cX3_isLastOfRecord 25 = .ok (.iload_n 2, 1) := by decide +kernel
theorem dX3_isLastOfRecord_26 : decode cX3_isLastOfRecord 26 = .ok (.aaload, 1) := by decide +kernel
theorem dX3_isLastOfRecord_27 : decode cX3_isLastOfRecord 27 = .ok (.astore_n 3, 1) := by decide +kernel
theorem dX3_isLastOfRecord_28 : decode cX3_isLastOfRecord 28 = .ok (.aload_n 3, 1) := by decide +kernel
theorem dX3_isLastOfRecord_29 : decode cX3_isLastOfRecord 29 = .ok (.getfield 190, 3) := by decide +kernel
theorem dX3_isLastOfRecord_32 : decode cX3_isLastOfRecord 32 = .ok (.aload_n 1, 1) := by decide +kernel
theorem dX3_isLastOfRecord_33 : decode cX3_isLastOfRecord 33 = .ok (.getfield 190, 3) := by decide +kernel
theorem dX3_isLastOfRecord_36 : decode cX3_isLastOfRecord 36 = .ok (.if_acmp .ne 20, 3) := by decide +kernel
theorem dX3_isLastOfRecord_39 : decode cX3_isLastOfRecord 39 = .ok (.aload_n 3, 1) := by decide +kernel
theorem dX3_isLastOfRecord_40 : decode cX3_isLastOfRecord 40 = .ok (.invokevirtual 32, 3) := by decide +kernel
theorem dX3_isLastOfRecord_43 : decode cX3_isLastOfRecord 43 = .ok (.ifCond .eq 13, 3) := by decide +kernel
theorem dX3_isLastOfRecord_46 : decode cX3_isLastOfRecord 46 = .ok (.aload_n 3, 1) := by decide +kernel
theorem dX3_isLastOfRecord_47 : decode cX3_isLastOfRecord 47 = .ok (.aload_n 1, 1) := by decide +kernel
theorem dX3_isLastOfRecord_48 : decode cX3_isLastOfRecord 48 = .ok (.invokevirtual 183, 3) := by decide +kernel
theorem dX3_isLastOfRecord_51 : decode cX3_isLastOfRecord 51 = .ok (.ifCond .ne 5, 3) := by decide +kernel
theorem dX3_isLastOfRecord_54 : decode cX3_isLastOfRecord 54 = .ok (.iconst 0, 1) := by decide +kernel
theorem dX3_isLastOfRecord_55 : decode cX3_isLastOfRecord 55 = .ok (.ireturn, 1) := by decide +kernel
theorem dX3_isLastOfRecord_56 : decode cX3_isLastOfRecord 56 = .ok (.iinc 2 1, 3) := by decide +kernel
theorem dX3_isLastOfRecord_59 : decode cX3_isLastOfRecord 59 = .ok (.goto (-52), 3) := by decide +kernel
theorem dX3_isLastOfRecord_62 : decode cX3_isLastOfRecord 62 = .ok (.iconst 1, 1) := by decide +kernel
theorem dX3_isLastOfRecord_63 : decode cX3_isLastOfRecord 63 = .ok (.ireturn, 1) := by decide +kernel
def VX3_isLastOfRecord_7 (g : jg) (a0 : Nat) (o1 : Option Nat) (x2 : Int32) (h : jh) (k n : Nat) (Q : jq) : Prop := (jt h a0 = 2) ∧ (¬ (jr h 64 a0) = none) ∧ (jt h (jd (jr h 64 a0)) = 7) ∧ (((ji h 385 (jd (jr h 64 a0))) < (x2) → Q (.inl (some (.inl (1)))) h) ∧ (¬ (ji h 385 (jd (jr h 64 a0))) < (x2) → (¬ (jr h 384 (jd (jr h 64 a0))) = none) ∧ (jt h (jd (jr h 384 (jd (jr h 64 a0)))) = 23) ∧ (vp_in (x2) (jn h (jd (jr h 384 (jd (jr h 64 a0)))))) ∧ (¬ (jR h (jd (jr h 384 (jd (jr h 64 a0)))) (x2 : Int32).toNatClampNeg) = none) ∧ (jt h (jd (jR h (jd (jr h 384 (jd (jr h 64 a0)))) (x2 : Int32).toNatClampNeg)) = 1) ∧ (¬ (o1) = none) ∧ (jt h (jd (o1)) = 1) ∧ ((¬ (jr h 8 (jd (jR h (jd (jr h 384 (jd (jr h 64 a0)))) (x2 : Int32).toNatClampNeg))) = (jr h 8 (jd (o1))) → jG g mX3_isLastOfRecord 7 [(0, .inr (.inr (some (a0)))), (1, .inr (.inr (o1))), (2, .inl ((x2) + 1))] [] h k n Q) ∧ ((jr h 8 (jd (jR h (jd (jr h 384 (jd (jr h 64 a0)))) (x2 : Int32).toNatClampNeg))) = (jr h 8 (jd (o1))) → jM g mX0_lies [.inr (.inr (some (jd (jR h (jd (jr h 384 (jd (jr h 64 a0)))) (x2 : Int32).toNatClampNeg))))] h 0 0 (jki (fun (r13 : Int32) (h14 : jh) => (((r13) = 0 → jG g mX3_isLastOfRecord 7 [(0, .inr (.inr (some (a0)))), (1, .inr (.inr (o1))), (2, .inl ((x2) + 1))] [] h14 k n Q) ∧ (¬ (r13) = 0 → (jt h14 (jd (jR h (jd (jr h 384 (jd (jr h 64 a0)))) (x2 : Int32).toNatClampNeg)) = 1) ∧ jM g mX0_isBelow [.inr (.inr (some (jd (jR h (jd (jr h 384 (jd (jr h 64 a0)))) (x2 : Int32).toNatClampNeg)))), .inr (.inr (o1))] h14 0 0 (jki (fun (r17 : Int32) (h18 : jh) => ((¬ (r17) = 0 → jG g mX3_isLastOfRecord 7 [(0, .inr (.inr (some (a0)))), (1, .inr (.inr (o1))), (2, .inl ((x2) + 1))] [] h18 k n Q) ∧ ((r17) = 0 → Q (.inl (some (.inl (0)))) h18))) (fun e h9 => Q (.inr e) h9))))) (fun e h9 => Q (.inr e) h9))))))
set_option maxRecDepth 20000 in
theorem vX3_isLastOfRecord_7 {g : jg} {a0 : Nat} {o1 : Option Nat} {x2 : Int32} {h : jh} {k n : Nat} {Q : jq} (hv : VX3_isLastOfRecord_7 g a0 o1 x2 h k n Q) : jG g mX3_isLastOfRecord 7 [(0, .inr (.inr (some (a0)))), (1, .inr (.inr (o1))), (2, .inl (x2))] [] h k n Q := by
  unfold VX3_isLastOfRecord_7 at hv
  refine jg_iload_n dX3_isLastOfRecord_7 rfl (List.Mem.tail _ (List.Mem.tail _ (List.Mem.head _))) ?_
  refine jg_aload_n dX3_isLastOfRecord_8 rfl (List.Mem.head _) ?_
  obtain ⟨f1, hv⟩ := hv
  refine jg_getr dX3_isLastOfRecord_9 fl_RX3_9 rfl jsn f1 ?_
  obtain ⟨f2, hv⟩ := hv
  obtain ⟨f3, hv⟩ := hv
  refine jg_geti dX3_isLastOfRecord_12 fl_RX3_22 rfl f2 f3 ?_
  refine jg_icmp_gt (tgt := 62) dX3_isLastOfRecord_15 (by decide) (fun c4 => ?_) (fun c4 => ?_)
  · replace hv := hv.1 c4
    refine jg_iconst (v := 1) dX3_isLastOfRecord_62 (by decide) ?_
    exact jg_bret dX3_isLastOfRecord_63 rfl (by decide) hv
  · replace hv := hv.2 c4
    refine jg_aload_n dX3_isLastOfRecord_18 rfl (List.Mem.head _) ?_
    refine jg_getr dX3_isLastOfRecord_19 fl_RX3_9 rfl jsn f1 ?_
    refine jg_getr dX3_isLastOfRecord_22 fl_RX3_28 rfl f2 f3 ?_
    refine jg_iload_n dX3_isLastOfRecord_25 rfl (List.Mem.tail _ (List.Mem.tail _ (List.Mem.head _))) ?_
    obtain ⟨f5, hv⟩ := hv
    obtain ⟨f6, hv⟩ := hv
    obtain ⟨f7, hv⟩ := hv
    refine jg_aald dX3_isLastOfRecord_26 f5 f6 f7 ?_
    refine jg_astore_n (lv' := [(3, .inr (.inr (jR h (jd (jr h 384 (jd (jr h 64 a0)))) (x2 : Int32).toNatClampNeg))), (0, .inr (.inr (some (a0)))), (1, .inr (.inr (o1))), (2, .inl (x2))]) dX3_isLastOfRecord_27 rfl (by decide) rfl ?_
    refine jg_aload_n dX3_isLastOfRecord_28 rfl (List.Mem.head _) ?_
    obtain ⟨f8, hv⟩ := hv
    obtain ⟨f9, hv⟩ := hv
    refine jg_getr dX3_isLastOfRecord_29 fl_RX3_190 rfl f8 f9 ?_
    refine jg_aload_n dX3_isLastOfRecord_32 rfl (List.Mem.tail _ (List.Mem.tail _ (List.Mem.head _))) ?_
    obtain ⟨f10, hv⟩ := hv
    obtain ⟨f11, hv⟩ := hv
    refine jg_getr dX3_isLastOfRecord_33 fl_RX3_190 rfl f10 f11 ?_
    refine jg_acmp_ne (tgt := 56) dX3_isLastOfRecord_36 (by decide) (fun c12 => ?_) (fun c12 => ?_)
    · replace hv := hv.1 c12
      refine jg_iinc (v := (x2) + 1) (lv' := [(2, .inl ((x2) + 1)), (3, .inr (.inr (jR h (jd (jr h 384 (jd (jr h 64 a0)))) (x2 : Int32).toNatClampNeg))), (0, .inr (.inr (some (a0)))), (1, .inr (.inr (o1)))]) dX3_isLastOfRecord_56 (List.Mem.tail _ (List.Mem.tail _ (List.Mem.tail _ (List.Mem.head _)))) rfl (by decide) rfl ?_
      refine jg_goto (tgt := 7) dX3_isLastOfRecord_59 (by decide) ?_
      refine jG.sub (lv' := [(0, .inr (.inr (some (a0)))), (1, .inr (.inr (o1))), (2, .inl ((x2) + 1))]) (by simp) ?_
      exact hv
    · replace hv := hv.2 c12
      refine jg_aload_n dX3_isLastOfRecord_39 rfl (List.Mem.head _) ?_
      refine jp_callV mX0_lies [] [] dX3_isLastOfRecord_40 rfl cl_RX3_32 ⟨⟨by decide, by decide⟩, by decide⟩ f8 f9 (Nat.zero_le _) (Nat.zero_le _) (jM.mono (jki_k (fun r13 h14 hv => ?_)) hv)
      refine jg_if_eq (tgt := 56) dX3_isLastOfRecord_43 (by decide) (fun c15 => ?_) (fun c15 => ?_)
      · replace hv := hv.1 c15
        refine jg_iinc (v := (x2) + 1) (lv' := [(2, .inl ((x2) + 1)), (3, .inr (.inr (jR h (jd (jr h 384 (jd (jr h 64 a0)))) (x2 : Int32).toNatClampNeg))), (0, .inr (.inr (some (a0)))), (1, .inr (.inr (o1)))]) dX3_isLastOfRecord_56 (List.Mem.tail _ (List.Mem.tail _ (List.Mem.tail _ (List.Mem.head _)))) rfl (by decide) rfl ?_
        refine jg_goto (tgt := 7) dX3_isLastOfRecord_59 (by decide) ?_
        refine jG.sub (lv' := [(0, .inr (.inr (some (a0)))), (1, .inr (.inr (o1))), (2, .inl ((x2) + 1))]) (by simp) ?_
        exact hv
      · replace hv := hv.2 c15
        refine jg_aload_n dX3_isLastOfRecord_46 rfl (List.Mem.head _) ?_
        refine jg_aload_n dX3_isLastOfRecord_47 rfl (List.Mem.tail _ (List.Mem.tail _ (List.Mem.head _))) ?_
        obtain ⟨f16, hv⟩ := hv
        refine jp_callV mX0_isBelow [.inr (.inr (o1))] [] dX3_isLastOfRecord_48 rfl cl_RX3_183 ⟨⟨by decide, by decide⟩, by decide⟩ f8 f16 (Nat.zero_le _) (Nat.zero_le _) (jM.mono (jki_k (fun r17 h18 hv => ?_)) hv)
        refine jg_if_ne (tgt := 56) dX3_isLastOfRecord_51 (by decide) (fun c19 => ?_) (fun c19 => ?_)
        · replace hv := hv.1 c19
          refine jg_iinc (v := (x2) + 1) (lv' := [(2, .inl ((x2) + 1)), (3, .inr (.inr (jR h (jd (jr h 384 (jd (jr h 64 a0)))) (x2 : Int32).toNatClampNeg))), (0, .inr (.inr (some (a0)))), (1, .inr (.inr (o1)))]) dX3_isLastOfRecord_56 (List.Mem.tail _ (List.Mem.tail _ (List.Mem.tail _ (List.Mem.head _)))) rfl (by decide) rfl ?_
          refine jg_goto (tgt := 7) dX3_isLastOfRecord_59 (by decide) ?_
          refine jG.sub (lv' := [(0, .inr (.inr (some (a0)))), (1, .inr (.inr (o1))), (2, .inl ((x2) + 1))]) (by simp) ?_
          exact hv
        · replace hv := hv.2 c19
          refine jg_iconst (v := 0) dX3_isLastOfRecord_54 (by decide) ?_
          exact jg_bret dX3_isLastOfRecord_55 rfl (by decide) hv
def VX3_isLastOfRecord_0 (g : jg) (a0 : Nat) (o1 : Option Nat) (h : jh) (k n : Nat) (Q : jq) : Prop := (¬ (o1) = none) ∧ (jt h (jd (o1)) = 1) ∧ jG g mX3_isLastOfRecord 7 [(0, .inr (.inr (some (a0)))), (1, .inr (.inr (o1))), (2, .inl ((ji h 0 (jd (o1))) + (1)))] [] h k n Q
set_option maxRecDepth 20000 in
theorem vX3_isLastOfRecord_0 {g : jg} {a0 : Nat} {o1 : Option Nat} {h : jh} {k n : Nat} {Q : jq} (hv : VX3_isLastOfRecord_0 g a0 o1 h k n Q) : jG g mX3_isLastOfRecord 0 [(0, .inr (.inr (some (a0)))), (1, .inr (.inr (o1)))] [] h k n Q := by
  unfold VX3_isLastOfRecord_0 at hv
  refine jg_aload_n dX3_isLastOfRecord_0 rfl (List.Mem.tail _ (List.Mem.head _)) ?_
  obtain ⟨f20, hv⟩ := hv
  obtain ⟨f21, hv⟩ := hv
  refine jg_geti dX3_isLastOfRecord_1 fl_RX3_180 rfl f20 f21 ?_
  refine jg_iconst (v := 1) dX3_isLastOfRecord_4 (by decide) ?_
  refine jg_iadd dX3_isLastOfRecord_5 ?_
  refine jg_istore_n (lv' := [(2, .inl ((ji h 0 (jd (o1))) + (1))), (0, .inr (.inr (some (a0)))), (1, .inr (.inr (o1)))]) dX3_isLastOfRecord_6 rfl (by decide) rfl ?_
  refine jG.sub (lv' := [(0, .inr (.inr (some (a0)))), (1, .inr (.inr (o1))), (2, .inl ((ji h 0 (jd (o1))) + (1)))]) (by simp) ?_
  exact hv
theorem eX3_isLastOfRecord {g : jg} {a0 : Nat} {o1 : Option Nat} {h : jh} {mc ms : Nat} {Q : jq} (hv : VX3_isLastOfRecord_0 g a0 o1 h mc ms Q) : jM g mX3_isLastOfRecord [.inr (.inr (some (a0))), .inr (.inr (o1))] h mc ms Q := jM.of (by decide) (Nat.le_of_ble_eq_true rfl) (lv := [(0, .inr (.inr (some (a0)))), (1, .inr (.inr (o1)))]) rfl (vX3_isLastOfRecord_0 hv)
theorem dX3_fitsOver_0 : decode cX3_fitsOver 0 = .ok (.aload_n 0, 1) := by decide +kernel
theorem dX3_fitsOver_1 : decode cX3_fitsOver 1 = .ok (.getfield 56, 3) := by decide +kernel
theorem dX3_fitsOver_4 : decode cX3_fitsOver 4 = .ok (.getfield 97, 3) := by decide +kernel
theorem dX3_fitsOver_7 : decode cX3_fitsOver 7 = .ok (.aload_n 1, 1) := by decide +kernel
theorem dX3_fitsOver_8 : decode cX3_fitsOver 8 = .ok (.getfield 56, 3) := by decide +kernel
theorem dX3_fitsOver_11 : decode cX3_fitsOver 11 = .ok (.getfield 97, 3) := by decide +kernel
theorem dX3_fitsOver_14 : decode cX3_fitsOver 14 = .ok (.lcmp, 1) := by decide +kernel
theorem dX3_fitsOver_15 : decode cX3_fitsOver 15 = .ok (.ifCond .eq 5, 3) := by decide +kernel
theorem dX3_fitsOver_18 : decode cX3_fitsOver 18 = .ok (.iconst 0, 1) := by decide +kernel
theorem dX3_fitsOver_19 : decode cX3_fitsOver 19 = .ok (.ireturn, 1) := by decide +kernel
theorem dX3_fitsOver_20 : decode cX3_fitsOver 20 = .ok (.aload_n 0, 1) := by decide +kernel
theorem dX3_fitsOver_21 : decode cX3_fitsOver 21 = .ok (.getfield 151, 3) := by decide +kernel
theorem dX3_fitsOver_24 : decode cX3_fitsOver 24 = .ok (.iconst 1, 1) := by decide +kernel
theorem dX3_fitsOver_25 : decode cX3_fitsOver 25 = .ok (.if_icmp .eq 15, 3) := by decide +kernel
theorem dX3_fitsOver_28 : decode cX3_fitsOver 28 = .ok (.aload_n 0, 1) := by decide +kernel
theorem dX3_fitsOver_29 : decode cX3_fitsOver 29 = .ok (.invokevirtual 133, 3) := by decide +kernel
theorem dX3_fitsOver_32 : decode cX3_fitsOver 32 = .ok (.aload_n 1, 1) := by decide +kernel
theorem dX3_fitsOver_33 : decode cX3_fitsOver 33 = .ok (.invokevirtual 133, 3) := by decide +kernel
theorem dX3_fitsOver_36 : decode cX3_fitsOver 36 = .ok (.lcmp, 1) := by decide +kernel
theorem dX3_fitsOver_37 : decode cX3_fitsOver 37 = .ok (.ifCond .gt 7, 3) := by decide +kernel
theorem dX3_fitsOver_40 : decode cX3_fitsOver 40 = .ok (.iconst 1, 1) := by decide +kernel
theorem dX3_fitsOver_41 : decode cX3_fitsOver 41 = .ok (.goto 4, 3) := by decide +kernel
theorem dX3_fitsOver_44 : decode cX3_fitsOver 44 = .ok (.iconst 0, 1) := by decide +kernel
theorem dX3_fitsOver_45 : decode cX3_fitsOver 45 = .ok (.ireturn, 1) := by decide +kernel
def VX3_fitsOver_0 (g : jg) (o0 : Option Nat) (o1 : Option Nat) (h : jh) (k n : Nat) (Q : jq) : Prop := (¬ (o0) = none) ∧ (jt h (jd (o0)) = 1) ∧ (¬ (jr h 7 (jd (o0))) = none) ∧ (jt h (jd (jr h 7 (jd (o0)))) = 4) ∧ (¬ (o1) = none) ∧ (jt h (jd (o1)) = 1) ∧ (¬ (jr h 7 (jd (o1))) = none) ∧ (jt h (jd (jr h 7 (jd (o1)))) = 4) ∧ (((jl h 192 (jd (jr h 7 (jd (o0))))) = (jl h 192 (jd (jr h 7 (jd (o1))))) → (((ji h 1 (jd (o0))) = (1) → Q (.inl (some (.inl (1)))) h) ∧ (¬ (ji h 1 (jd (o0))) = (1) → jM g mX0_extent [.inr (.inr (some (jd (o0))))] h 0 0 (jkl (fun (r11 : Int64) (h12 : jh) => (jt h12 (jd (o1)) = 1) ∧ jM g mX0_extent [.inr (.inr (some (jd (o1))))] h12 0 0 (jkl (fun (r14 : Int64) (h15 : jh) => (((r14) < (r11) → Q (.inl (some (.inl (0)))) h15) ∧ (¬ (r14) < (r11) → Q (.inl (some (.inl (1)))) h15))) (fun e h9 => Q (.inr e) h9))) (fun e h9 => Q (.inr e) h9))))) ∧ (¬ (jl h 192 (jd (jr h 7 (jd (o0))))) = (jl h 192 (jd (jr h 7 (jd (o1))))) → Q (.inl (some (.inl (0)))) h))
set_option maxRecDepth 20000 in
theorem vX3_fitsOver_0 {g : jg} {o0 : Option Nat} {o1 : Option Nat} {h : jh} {k n : Nat} {Q : jq} (hv : VX3_fitsOver_0 g o0 o1 h k n Q) : jG g mX3_fitsOver 0 [(0, .inr (.inr (o0))), (1, .inr (.inr (o1)))] [] h k n Q := by
  unfold VX3_fitsOver_0 at hv
  refine jg_aload_n dX3_fitsOver_0 rfl (List.Mem.head _) ?_
  obtain ⟨f1, hv⟩ := hv
  obtain ⟨f2, hv⟩ := hv
  refine jg_getr dX3_fitsOver_1 fl_RX3_56 rfl f1 f2 ?_
  obtain ⟨f3, hv⟩ := hv
  obtain ⟨f4, hv⟩ := hv
  refine jg_getl dX3_fitsOver_4 fl_RX3_97 rfl f3 f4 ?_
  refine jg_aload_n dX3_fitsOver_7 rfl (List.Mem.tail _ (List.Mem.head _)) ?_
  obtain ⟨f5, hv⟩ := hv
  obtain ⟨f6, hv⟩ := hv
  refine jg_getr dX3_fitsOver_8 fl_RX3_56 rfl f5 f6 ?_
  obtain ⟨f7, hv⟩ := hv
  obtain ⟨f8, hv⟩ := hv
  refine jg_getl dX3_fitsOver_11 fl_RX3_97 rfl f7 f8 ?_
  refine jg_lcmp_eq (tgt := 20) dX3_fitsOver_14 dX3_fitsOver_15 (by decide) (fun c9 => ?_) (fun c9 => ?_)
  · replace hv := hv.1 c9
    refine jg_aload_n dX3_fitsOver_20 rfl (List.Mem.head _) ?_
    refine jg_geti dX3_fitsOver_21 fl_RX3_151 rfl f1 f2 ?_
    refine jg_iconst (v := 1) dX3_fitsOver_24 (by decide) ?_
    refine jg_icmp_eq (tgt := 40) dX3_fitsOver_25 (by decide) (fun c10 => ?_) (fun c10 => ?_)
    · replace hv := hv.1 c10
      refine jg_iconst (v := 1) dX3_fitsOver_40 (by decide) ?_
      refine jg_goto (tgt := 45) dX3_fitsOver_41 (by decide) ?_
      exact jg_bret dX3_fitsOver_45 rfl (by decide) hv
    · replace hv := hv.2 c10
      refine jg_aload_n dX3_fitsOver_28 rfl (List.Mem.head _) ?_
      refine jp_callV mX0_extent [] [] dX3_fitsOver_29 rfl cl_RX3_133 ⟨⟨by decide, by decide⟩, by decide⟩ f1 f2 (Nat.zero_le _) (Nat.zero_le _) (jM.mono (jkl_k (fun r11 h12 hv => ?_)) hv)
      refine jg_aload_n dX3_fitsOver_32 rfl (List.Mem.tail _ (List.Mem.head _)) ?_
      obtain ⟨f13, hv⟩ := hv
      refine jp_callV mX0_extent [] [.inr (.inl (r11))] dX3_fitsOver_33 rfl cl_RX3_133 ⟨⟨by decide, by decide⟩, jcat_le _ (Nat.le_of_ble_eq_true rfl)⟩ f5 f13 (Nat.zero_le _) (Nat.zero_le _) (jM.mono (jkl_k (fun r14 h15 hv => ?_)) hv)
      refine jg_lcmp_gt (tgt := 44) dX3_fitsOver_36 dX3_fitsOver_37 (by decide) (fun c16 => ?_) (fun c16 => ?_)
      · replace hv := hv.1 c16
        refine jg_iconst (v := 0) dX3_fitsOver_44 (by decide) ?_
        exact jg_bret dX3_fitsOver_45 rfl (by decide) hv
      · replace hv := hv.2 c16
        refine jg_iconst (v := 1) dX3_fitsOver_40 (by decide) ?_
        refine jg_goto (tgt := 45) dX3_fitsOver_41 (by decide) ?_
        exact jg_bret dX3_fitsOver_45 rfl (by decide) hv
  · replace hv := hv.2 c9
    refine jg_iconst (v := 0) dX3_fitsOver_18 (by decide) ?_
    exact jg_bret dX3_fitsOver_19 rfl (by decide) hv
theorem eX3_fitsOver {g : jg} {o0 : Option Nat} {o1 : Option Nat} {h : jh} {mc ms : Nat} {Q : jq} (hv : VX3_fitsOver_0 g o0 o1 h mc ms Q) : jM g mX3_fitsOver [.inr (.inr (o0)), .inr (.inr (o1))] h mc ms Q := jM.of (by decide) (Nat.le_of_ble_eq_true rfl) (lv := [(0, .inr (.inr (o0))), (1, .inr (.inr (o1)))]) rfl (vX3_fitsOver_0 hv)
theorem dX3_fitsFirstOfName_0 : decode cX3_fitsFirstOfName 0 = .ok (.aload_n 1, 1) := by decide +kernel
theorem dX3_fitsFirstOfName_1 : decode cX3_fitsFirstOfName 1 = .ok (.getfield 114, 3) := by decide +kernel
theorem dX3_fitsFirstOfName_4 : decode cX3_fitsFirstOfName 4 = .ok (.iconst (-1), 1) := by decide +kernel
theorem dX3_fitsFirstOfName_5 : decode cX3_fitsFirstOfName 5 = .ok (.if_icmp .ne 7, 3) := by decide +kernel
theorem dX3_fitsFirstOfName_8 : decode cX3_fitsFirstOfName 8 = .ok (.aconst_null, 1) := by decide +kernel
theorem dX3_fitsFirstOfName_9 : decode cX3_fitsFirstOfName 9 = .ok (.goto 14, 3) := by decide +kernel
theorem dX3_fitsFirstOfName_12 : decode cX3_fitsFirstOfName 12 = .ok (.aload_n 0, 1) := by decide +kernel
theorem dX3_fitsFirstOfName_13 : decode cX3_fitsFirstOfName 13 = .ok (.getfield 9, 3) := by decide +kernel
theorem dX3_fitsFirstOfName_16 : decode cX3_fitsFirstOfName 16 = .ok (.aload_n 1, 1) := by decide +kernel
theorem dX3_fitsFirstOfName_17 : decode cX3_fitsFirstOfName 17 = .ok (.getfield 114, 3) := by decide +kernel
theorem dX3_fitsFirstOfName_20 : decode cX3_fitsFirstOfName 20 = .ok (.invokevirtual 117, 3) := by decide +kernel
theorem dX3_fitsFirstOfName_23 : decode cX3_fitsFirstOfName 23 = .ok (.astore_n 2, 1) := by decide +kernel
theorem dX3_fitsFirstOfName_24 : decode cX3_fitsFirstOfName 24 = .ok (.aload_n 2, 1) := by decide +kernel
theorem dX3_fitsFirstOfName_25 : decode cX3_fitsFirstOfName 25 = .ok (.ifnull 15, 3) := by decide +kernel
theorem dX3_fitsFirstOfName_28 : decode cX3_fitsFirstOfName 28 = .ok (.aload_n 2, 1) := by decide +kernel
theorem dX3_fitsFirstOfName_29 : decode cX3_fitsFirstOfName 29 = .ok (.invokevirtual 124, 3) := by decide +kernel
theorem dX3_fitsFirstOfName_32 : decode cX3_fitsFirstOfName 32 = .ok (.aload_n 1, 1) := by decide +kernel
theorem dX3_fitsFirstOfName_33 : decode cX3_fitsFirstOfName 33 = .ok (.invokevirtual 124, 3) := by decide +kernel
theorem dX3_fitsFirstOfName_36 : decode cX3_fitsFirstOfName 36 = .ok (.lcmp, 1) := by decide +kernel
theorem dX3_fitsFirstOfName_37 : decode cX3_fitsFirstOfName 37 = .ok (.ifCond .ne 7, 3) := by decide +kernel
theorem dX3_fitsFirstOfName_40 : decode cX3_fitsFirstOfName 40 = .ok (.iconst 1, 1) := by decide +kernel
theorem dX3_fitsFirstOfName_41 : decode cX3_fitsFirstOfName 41 = .ok (.goto 4, 3) := by decide +kernel
theorem dX3_fitsFirstOfName_44 : decode cX3_fitsFirstOfName 44 = .ok (.iconst 0, 1) := by decide +kernel
theorem dX3_fitsFirstOfName_45 : decode cX3_fitsFirstOfName 45 = .ok (.ireturn, 1) := by decide +kernel
def VX3_fitsFirstOfName_23 (g : jg) (o1 : Option Nat) (so0 : Option Nat) (h : jh) (k n : Nat) (Q : jq) : Prop := (((so0) = none → Q (.inl (some (.inl (1)))) h) ∧ (¬ (so0) = none → (jt h (jd (so0)) = 1) ∧ jM g mX0_length [.inr (.inr (some (jd (so0))))] h 0 0 (jkl (fun (r3 : Int64) (h4 : jh) => (¬ (o1) = none) ∧ (jt h4 (jd (o1)) = 1) ∧ jM g mX0_length [.inr (.inr (some (jd (o1))))] h4 0 0 (jkl (fun (r7 : Int64) (h8 : jh) => ((¬ (r3) = (r7) → Q (.inl (some (.inl (0)))) h8) ∧ ((r3) = (r7) → Q (.inl (some (.inl (1)))) h8))) (fun e h9 => Q (.inr e) h9))) (fun e h9 => Q (.inr e) h9))))
set_option maxRecDepth 20000 in
theorem vX3_fitsFirstOfName_23 {g : jg} {o1 : Option Nat} {so0 : Option Nat} {h : jh} {k n : Nat} {Q : jq} (hv : VX3_fitsFirstOfName_23 g o1 so0 h k n Q) : jG g mX3_fitsFirstOfName 23 [(1, .inr (.inr (o1)))] [.inr (.inr (so0))] h k n Q := by
  unfold VX3_fitsFirstOfName_23 at hv
  refine jg_astore_n (lv' := [(2, .inr (.inr (so0))), (1, .inr (.inr (o1)))]) dX3_fitsFirstOfName_23 rfl (by decide) rfl ?_
  refine jg_aload_n dX3_fitsFirstOfName_24 rfl (List.Mem.head _) ?_
  refine jg_ifnull (tgt := 40) dX3_fitsFirstOfName_25 (by decide) (fun c1 => ?_) (fun c1 => ?_)
  · replace hv := hv.1 c1
    refine jg_iconst (v := 1) dX3_fitsFirstOfName_40 (by decide) ?_
    refine jg_goto (tgt := 45) dX3_fitsFirstOfName_41 (by decide) ?_
    exact jg_bret dX3_fitsFirstOfName_45 rfl (by decide) hv
  · replace hv := hv.2 c1
    refine jg_aload_n dX3_fitsFirstOfName_28 rfl (List.Mem.head _) ?_
    obtain ⟨f2, hv⟩ := hv
    refine jp_callV mX0_length [] [] dX3_fitsFirstOfName_29 rfl cl_RX3_124 ⟨⟨by decide, by decide⟩, by decide⟩ c1 f2 (Nat.zero_le _) (Nat.zero_le _) (jM.mono (jkl_k (fun r3 h4 hv => ?_)) hv)
    refine jg_aload_n dX3_fitsFirstOfName_32 rfl (List.Mem.tail _ (List.Mem.head _)) ?_
    obtain ⟨f5, hv⟩ := hv
    obtain ⟨f6, hv⟩ := hv
    refine jp_callV mX0_length [] [.inr (.inl (r3))] dX3_fitsFirstOfName_33 rfl cl_RX3_124 ⟨⟨by decide, by decide⟩, jcat_le _ (Nat.le_of_ble_eq_true rfl)⟩ f5 f6 (Nat.zero_le _) (Nat.zero_le _) (jM.mono (jkl_k (fun r7 h8 hv => ?_)) hv)
    refine jg_lcmp_ne (tgt := 44) dX3_fitsFirstOfName_36 dX3_fitsFirstOfName_37 (by decide) (fun c9 => ?_) (fun c9 => ?_)
    · replace hv := hv.1 c9
      refine jg_iconst (v := 0) dX3_fitsFirstOfName_44 (by decide) ?_
      exact jg_bret dX3_fitsFirstOfName_45 rfl (by decide) hv
    · replace hv := hv.2 c9
      refine jg_iconst (v := 1) dX3_fitsFirstOfName_40 (by decide) ?_
      refine jg_goto (tgt := 45) dX3_fitsFirstOfName_41 (by decide) ?_
      exact jg_bret dX3_fitsFirstOfName_45 rfl (by decide) hv
def VX3_fitsFirstOfName_0 (g : jg) (a0 : Nat) (o1 : Option Nat) (h : jh) (k n : Nat) (Q : jq) : Prop := (¬ (o1) = none) ∧ (jt h (jd (o1)) = 1) ∧ ((¬ (ji h 19 (jd (o1))) = ((-1)) → (jt h a0 = 2) ∧ (¬ (jr h 64 a0) = none) ∧ (jt h (jd (jr h 64 a0)) = 7) ∧ jM g mX8_firstOfName [.inr (.inr (some (jd (jr h 64 a0)))), .inl (ji h 19 (jd (o1)))] h 0 0 (jkr (fun (r16 : Option Nat) (h17 : jh) => VX3_fitsFirstOfName_23 g (o1) (r16) h17 k n Q) (fun e h9 => Q (.inr e) h9))) ∧ ((ji h 19 (jd (o1))) = ((-1)) → VX3_fitsFirstOfName_23 g (o1) (none) h k n Q))
set_option maxRecDepth 20000 in
theorem vX3_fitsFirstOfName_0 {g : jg} {a0 : Nat} {o1 : Option Nat} {h : jh} {k n : Nat} {Q : jq} (hv : VX3_fitsFirstOfName_0 g a0 o1 h k n Q) : jG g mX3_fitsFirstOfName 0 [(0, .inr (.inr (some (a0)))), (1, .inr (.inr (o1)))] [] h k n Q := by
  unfold VX3_fitsFirstOfName_0 at hv
  refine jg_aload_n dX3_fitsFirstOfName_0 rfl (List.Mem.tail _ (List.Mem.head _)) ?_
  obtain ⟨f10, hv⟩ := hv
  obtain ⟨f11, hv⟩ := hv
  refine jg_geti dX3_fitsFirstOfName_1 fl_RX3_114 rfl f10 f11 ?_
  refine jg_iconst (v := (-1)) dX3_fitsFirstOfName_4 (by decide) ?_
  refine jg_icmp_ne (tgt := 12) dX3_fitsFirstOfName_5 (by decide) (fun c12 => ?_) (fun c12 => ?_)
  · replace hv := hv.1 c12
    refine jg_aload_n dX3_fitsFirstOfName_12 rfl (List.Mem.head _) ?_
    obtain ⟨f13, hv⟩ := hv
    refine jg_getr dX3_fitsFirstOfName_13 fl_RX3_9 rfl jsn f13 ?_
    refine jg_aload_n dX3_fitsFirstOfName_16 rfl (List.Mem.tail _ (List.Mem.head _)) ?_
    refine jg_geti dX3_fitsFirstOfName_17 fl_RX3_114 rfl f10 f11 ?_
    obtain ⟨f14, hv⟩ := hv
    obtain ⟨f15, hv⟩ := hv
    refine jp_callV mX8_firstOfName [.inl (ji h 19 (jd (o1)))] [] dX3_fitsFirstOfName_20 rfl cl_RX3_117 ⟨⟨by decide, by decide⟩, by decide⟩ f14 f15 (Nat.zero_le _) (Nat.zero_le _) (jM.mono (jkr_k (fun r16 h17 hv => ?_)) hv)
    refine jG.sub (lv' := [(1, .inr (.inr (o1)))]) (by simp) ?_
    exact vX3_fitsFirstOfName_23 hv
  · replace hv := hv.2 c12
    refine jg_null dX3_fitsFirstOfName_8 ?_
    refine jg_goto (tgt := 23) dX3_fitsFirstOfName_9 (by decide) ?_
    refine jG.sub (lv' := [(1, .inr (.inr (o1)))]) (by simp) ?_
    exact vX3_fitsFirstOfName_23 hv
theorem eX3_fitsFirstOfName {g : jg} {a0 : Nat} {o1 : Option Nat} {h : jh} {mc ms : Nat} {Q : jq} (hv : VX3_fitsFirstOfName_0 g a0 o1 h mc ms Q) : jM g mX3_fitsFirstOfName [.inr (.inr (some (a0))), .inr (.inr (o1))] h mc ms Q := jM.of (by decide) (Nat.le_of_ble_eq_true rfl) (lv := [(0, .inr (.inr (some (a0)))), (1, .inr (.inr (o1)))]) rfl (vX3_fitsFirstOfName_0 hv)
theorem dX3_roundUp_0 : decode cX3_roundUp 0 = .ok (.lload_n 0, 1) := by decide +kernel
theorem dX3_roundUp_1 : decode cX3_roundUp 1 = .ok (.iload_n 2, 1) := by decide +kernel
theorem dX3_roundUp_2 : decode cX3_roundUp 2 = .ok (.i2l, 1) := by decide +kernel
theorem dX3_roundUp_3 : decode cX3_roundUp 3 = .ok (.ladd, 1) := by decide +kernel
theorem dX3_roundUp_4 : decode cX3_roundUp 4 = .ok (.lconst 1, 1) := by decide +kernel
theorem dX3_roundUp_5 : decode cX3_roundUp 5 = .ok (.lsub, 1) := by decide +kernel
theorem dX3_roundUp_6 : decode cX3_roundUp 6 = .ok (.iload_n 2, 1) := by decide +kernel
theorem dX3_roundUp_7 : decode cX3_roundUp 7 = .ok (.i2l, 1) := by decide +kernel
theorem dX3_roundUp_8 : decode cX3_roundUp 8 = .ok (.lneg, 1) := by decide +kernel
theorem dX3_roundUp_9 : decode cX3_roundUp 9 = .ok (.land, 1) := by decide +kernel
theorem dX3_roundUp_10 : decode cX3_roundUp 10 = .ok (.lreturn, 1) := by decide +kernel
def VX3_roundUp_0 (g : jg) (x0 : Int64) (x2 : Int32) (h : jh) (k n : Nat) (Q : jq) : Prop := Q (.inl (some (.inr (.inl ((((x0) + ((x2 : Int32).toInt64)) - (1)) &&& (-((x2 : Int32).toInt64))))))) h
set_option maxRecDepth 20000 in
theorem vX3_roundUp_0 {g : jg} {x0 : Int64} {x2 : Int32} {h : jh} {k n : Nat} {Q : jq} (hv : VX3_roundUp_0 g x0 x2 h k n Q) : jG g mX3_roundUp 0 [(0, .inr (.inl (x0))), (2, .inl (x2))] [] h k n Q := by
  unfold VX3_roundUp_0 at hv
  refine jg_lload_n dX3_roundUp_0 rfl (List.Mem.head _) ?_
  refine jg_iload_n dX3_roundUp_1 rfl (List.Mem.tail _ (List.Mem.head _)) ?_
  refine jg_i2l dX3_roundUp_2 ?_
  refine jg_ladd dX3_roundUp_3 ?_
  refine jg_lconst (v := 1) dX3_roundUp_4 (by decide) ?_
  refine jg_lsub dX3_roundUp_5 ?_
  refine jg_iload_n dX3_roundUp_6 rfl (List.Mem.tail _ (List.Mem.head _)) ?_
  refine jg_i2l dX3_roundUp_7 ?_
  refine jg_lneg dX3_roundUp_8 ?_
  refine jg_land dX3_roundUp_9 ?_
  exact jg_lret dX3_roundUp_10 rfl hv
theorem eX3_roundUp {g : jg} {x0 : Int64} {x2 : Int32} {h : jh} {mc ms : Nat} {Q : jq} (hv : VX3_roundUp_0 g x0 x2 h mc ms Q) : jM g mX3_roundUp [.inr (.inl (x0)), .inl (x2)] h mc ms Q := jM.of (by decide) (Nat.le_of_ble_eq_true rfl) (lv := [(0, .inr (.inl (x0))), (2, .inl (x2))]) rfl (vX3_roundUp_0 hv)
